/-! MODEL: the four slots, the new table, the gap (laid by gen_model2.py) -/
theorem hin_X2_moveSome_X2 : ∀ w ∈ wsX20, w ∈ wsX2_moveSome := by decide +kernel
theorem hin_X2_become_X2 : ∀ w ∈ wsX20, w ∈ wsX2_become := by decide +kernel
theorem hin_X2_settle_X2 : ∀ w ∈ wsX20, w ∈ wsX2_settle := by decide +kernel
theorem hin_X2_free_X2 : ∀ w ∈ wsX20, w ∈ wsX2_free := by decide +kernel
set_option maxHeartbeats 4000000 in
set_option maxRecDepth 100000 in
theorem lp_X2_moveSome {p : Program} {l : Launch} {e : Env} {s : State} {m : MethodId} {args : Array Value} {below : List Frame} {meth : Method} {c : Code} {Q : State → Prop} {dC : Nat → ClassId} {dI : Nat → Nat → Nat} {cI : ClassId} {Aq : Nat → Prop} {H0 : Heap} (S0 : CallFix p m c cX2_moveSome 5 s args wsX2_moveSome RX2) (hK : va_K (dC, dI) vwCl [(cI, .int)] s) (hA : ∀ q : Nat, H0.size ≤ q → Aq q) (g0 gs gk gv gz L : Nat) (Zx : Nat → Int32) (x0 x7 x9 x11 : Int32) (ci cu nA nB RW : Nat) (RA RB : q_TB) (hci : ci < 2) (hzA : Zx ci = nI nA) (hzB : Zx (1 - ci) = nI nB) (hpA : q_pw nA) (hpB : q_pw nB) (hc4 : cu + 4 ≤ nB)
    (kk : ∀ (Sx Kx Vx : Nat → Int32) (_ : q_RT Sx Kx Vx ci RA) (_ : q_RT Sx Kx Vx (1 - ci) RB) (H : Heap) (locs : List Loc) (ls : Array Slot), va_P (dC, dI) vwCl [(g0, .inr (2, [.int x0, .int (nI L), .ref gs, .ref gk, .ref gv, .ref gz, .int (nI ci), .int x7, .int (nI (cu + 4)), .int x9, .int (nI RW), .int x11])), (gs, .inl (cI, 2048, .inl Sx)), (gk, .inl (cI, 2048, .inl Kx)), (gv, .inl (cI, 2048, .inl Vx)), (gz, .inl (cI, 2, .inl Zx))] H → va_D Aq [(g0, .inr (2, [.int x0, .int (nI L), .ref gs, .ref gk, .ref gv, .ref gz, .int (nI ci), .int x7, .int (nI (cu + 4)), .int x9, .int (nI RW), .int x11])), (gs, .inl (cI, 2048, .inl Sx)), (gk, .inl (cI, 2048, .inl Kx)), (gv, .inl (cI, 2048, .inl Vx)), (gz, .inl (cI, 2, .inl Zx))] → va_S Aq H0 H locs → lv_has ls 5 [(0, .ref g0), (1, .int (nI (1 - ci)))] → W p l e ({ frames := 2, cells := 0, slots := 0, locals := 47 }) s m args below meth c H locs 0 0 Q (F0 m 120 ls [])) :
    ∀ (f : Nat) (j w : Nat) (X Y : q_TB) (Sx Kx Vx : Nat → Int32), j + f = 4 ∧ q_MI X Y (cu + j) ∧ X.1 = nA ∧ Y.1 = nB ∧ q_RT Sx Kx Vx ci X ∧ q_RT Sx Kx Vx (1 - ci) Y ∧ (q_mvs f X Y (cu + j)).1 = RA ∧ (q_mvs f X Y (cu + j)).2.1 = RB ∧ w + (q_mvs f X Y (cu + j)).2.2 = RW → ∀ (H : Heap) (locs : List Loc) (ls : Array Slot), va_P (dC, dI) vwCl [(g0, .inr (2, [.int x0, .int (nI L), .ref gs, .ref gk, .ref gv, .ref gz, .int (nI ci), .int x7, .int (nI (cu + j)), .int x9, .int (nI w), .int x11])), (gs, .inl (cI, 2048, .inl Sx)), (gk, .inl (cI, 2048, .inl Kx)), (gv, .inl (cI, 2048, .inl Vx)), (gz, .inl (cI, 2, .inl Zx))] H → va_D Aq [(g0, .inr (2, [.int x0, .int (nI L), .ref gs, .ref gk, .ref gv, .ref gz, .int (nI ci), .int x7, .int (nI (cu + j)), .int x9, .int (nI w), .int x11])), (gs, .inl (cI, 2048, .inl Sx)), (gk, .inl (cI, 2048, .inl Kx)), (gv, .inl (cI, 2048, .inl Vx)), (gz, .inl (cI, 2, .inl Zx))] → va_S Aq H0 H locs → lv_has ls 5 [(0, .ref g0), (1, .int (nI (1 - ci))), (2, .int (nI j))] → W p l e ({ frames := 2, cells := 0, slots := 0, locals := 47 }) s m args below meth c H locs 0 0 Q (F0 m 9 ls []) := by
  obtain ⟨hx, hb, hml, hown, hts⟩ := id S0
  intro f
  induction f with
  | zero =>
    intro j w X Y Sx Kx Vx hi H locs ls hP hD hS hl
    obtain ⟨h1, h2, h3, h4, h5, h6, h7, h8, h9⟩ := hi
    have hA8 := q_pw_8 hpA
    have hB8 := q_pw_8 hpB
    refine lv_iload_n hx hb dX2_moveSome_9 rfl (lv_at hl 2 rfl) ?_
    refine lv_iconst (v := 4) hx hb dX2_moveSome_10 (by decide) ?_
    refine lv_icmp_ge (tgt := 120) hx hb dX2_moveSome_11 (by decide) (fun c_11 => ?_) (fun c_11 => ?_)
    · have h_11 := q_le_t (a := 4) (b := j) (by omega) (by omega) c_11
      have ej : j = 4 := by omega
      subst ej
      have e1 : X = RA := h7
      have e2 : Y = RB := h8
      have e3 : w = RW := h9
      subst e1
      subst e2
      subst e3
      exact kk Sx Kx Vx h5 h6 H locs ls hP hD hS (lv_sub hl [0, 1] rfl)
    · have h_11 := q_le_f (a := 4) (b := j) (by omega) (by omega) c_11
      omega
  | succ f ih =>
    intro j w X Y Sx Kx Vx hi H locs ls hP hD hS hl
    obtain ⟨h1, h2, h3, h4, h5, h6, h7, h8, h9⟩ := hi
    have hA8 := q_pw_8 hpA
    have hB8 := q_pw_8 hpB
    refine lv_iload_n hx hb dX2_moveSome_9 rfl (lv_at hl 2 rfl) ?_
    refine lv_iconst (v := 4) hx hb dX2_moveSome_10 (by decide) ?_
    refine lv_icmp_ge (tgt := 120) hx hb dX2_moveSome_11 (by decide) (fun c_11 => ?_) (fun c_11 => ?_)
    · have h_11 := q_le_t (a := 4) (b := j) (by omega) (by omega) c_11
      omega
    · have h_11 := q_le_f (a := 4) (b := j) (by omega) (by omega) c_11
      refine lv_aload_n hx hb dX2_moveSome_14 rfl (lv_at hl 0 rfl) ?_
      refine va_get (D := (dC, dI)) (ci := 2) (v := .int (nI (cu + j))) (C := RX2) (T := TX2) (N := 12) hx hb hts hin_X2_moveSome_X2 hown hK hP 0 rfl rfl 8 (by decide) (hts (.fieldLink RX2 46 "StepMapModel" "cursor" "I") (by decide +kernel)) (fun _ h9 => h9) rfl dX2_moveSome_15 ?_
      refine lv_aload_n hx hb dX2_moveSome_18 rfl (lv_at hl 0 rfl) ?_
      refine va_get (D := (dC, dI)) (ci := 2) (v := .ref gz) (C := RX2) (T := TX2) (N := 12) hx hb hts hin_X2_moveSome_X2 hown hK hP 0 rfl rfl 5 (by decide) (hts (.fieldLink RX2 19 "StepMapModel" "sizes" "[I") (by decide +kernel)) (fun _ h9 => h9) rfl dX2_moveSome_19 ?_
      refine lv_iload_n hx hb dX2_moveSome_22 rfl (lv_at hl 1 rfl) ?_
      refine r_ld (i := 1 - ci) hx hb hK hP 4 0 rfl rfl (by omega) (by omega) dX2_moveSome_23 ?_
      refine r_eq (z := nI nB) (hzB) ?_
      refine lv_icmp_ge (tgt := 120) hx hb dX2_moveSome_24 (by decide) (fun c_24 => ?_) (fun c_24 => ?_)
      · have h_24 := q_le_t (a := nB) (b := cu + j) (by omega) (by omega) c_24
        omega
      · have h_24 := q_le_f (a := nB) (b := cu + j) (by omega) (by omega) c_24
        refine lv_aload_n hx hb dX2_moveSome_27 rfl (lv_at hl 0 rfl) ?_
        refine lv_dup hx hb dX2_moveSome_28 rfl ?_
        refine va_get (D := (dC, dI)) (ci := 2) (v := .int (nI w)) (C := RX2) (T := TX2) (N := 12) hx hb hts hin_X2_moveSome_X2 hown hK hP 0 rfl rfl 10 (by decide) (hts (.fieldLink RX2 34 "StepMapModel" "visits" "I") (by decide +kernel)) (fun _ h9 => h9) rfl dX2_moveSome_29 ?_
        refine lv_iconst (v := 1) hx hb dX2_moveSome_32 (by decide) ?_
        refine lv_iadd hx hb dX2_moveSome_33 ?_
        refine r_eq (z := nI (w + 1)) (nI_add w 1) ?_
        refine va_put (D := (dC, dI)) (ci := 2) (v := .int (nI (w + 1))) (ty := .int) (C := RX2) (T := TX2) (N := 12) hx hb hts hin_X2_moveSome_X2 tyX2 tyX2_ok nmX2 hown hK hP hD hS 0 rfl rfl 10 (by decide) (hts (.fieldLink RX2 34 "StepMapModel" "visits" "I") (by decide +kernel)) (fun _ h9 => h9) rfl (by decide +kernel) (rfl) (rfl) (Nat.le_of_ble_eq_true rfl) dX2_moveSome_34 (fun H locs hP hD hS => ?_)
        have hP : va_P (dC, dI) vwCl [(g0, .inr (2, [.int x0, .int (nI L), .ref gs, .ref gk, .ref gv, .ref gz, .int (nI ci), .int x7, .int (nI (cu + j)), .int x9, .int (nI (w + 1)), .int x11])), (gs, .inl (cI, 2048, .inl Sx)), (gk, .inl (cI, 2048, .inl Kx)), (gv, .inl (cI, 2048, .inl Vx)), (gz, .inl (cI, 2, .inl Zx))] H := hP
        have hD : va_D Aq [(g0, .inr (2, [.int x0, .int (nI L), .ref gs, .ref gk, .ref gv, .ref gz, .int (nI ci), .int x7, .int (nI (cu + j)), .int x9, .int (nI (w + 1)), .int x11])), (gs, .inl (cI, 2048, .inl Sx)), (gk, .inl (cI, 2048, .inl Kx)), (gv, .inl (cI, 2048, .inl Vx)), (gz, .inl (cI, 2, .inl Zx))] := hD
        refine lv_aload_n hx hb dX2_moveSome_37 rfl (lv_at hl 0 rfl) ?_
        refine lv_iload_n hx hb dX2_moveSome_38 rfl (lv_at hl 1 rfl) ?_
        refine lv_aload_n hx hb dX2_moveSome_39 rfl (lv_at hl 0 rfl) ?_
        refine va_get (D := (dC, dI)) (ci := 2) (v := .int (nI (cu + j))) (C := RX2) (T := TX2) (N := 12) hx hb hts hin_X2_moveSome_X2 hown hK hP 0 rfl rfl 8 (by decide) (hts (.fieldLink RX2 46 "StepMapModel" "cursor" "I") (by decide +kernel)) (fun _ h9 => h9) rfl dX2_moveSome_40 ?_
        refine r_roV (rest := []) S0 (c_X2_at l dC dI cI g0 gs gk gv gz L Sx Kx Vx Zx x0 (nI ci) x7 (nI (cu + j)) x9 (nI (w + 1)) x11 (1 - ci) (cu + j)) (cwV 2 hts gX2_moveSome_X2_at rfl rfl rfl (by decide +kernel) ⟨Nat.le_of_ble_eq_true rfl, Nat.le_of_ble_eq_true rfl⟩) hK hP [0, 1, 2, 3, 4] rfl (ci := 2) (q0 := 0) rfl rfl rfl rfl hl.1 rfl (Nat.le_of_ble_eq_true rfl) dX2_moveSome_43 ⟨Nat.zero_le _, Nat.zero_le _⟩ ?_
        refine lv_istore_n (lv' := [(3, .int (nI (1024 * (1 - ci) + (cu + j)))), (0, .ref g0), (1, .int (nI (1 - ci))), (2, .int (nI j))]) hx hb dX2_moveSome_46 rfl hl (by decide) rfl (fun ls hl => ?_)
        refine lv_aload_n hx hb dX2_moveSome_47 rfl (lv_at hl 1 rfl) ?_
        refine va_get (D := (dC, dI)) (ci := 2) (v := .ref gs) (C := RX2) (T := TX2) (N := 12) hx hb hts hin_X2_moveSome_X2 hown hK hP 0 rfl rfl 2 (by decide) (hts (.fieldLink RX2 7 "StepMapModel" "states" "[I") (by decide +kernel)) (fun _ h9 => h9) rfl dX2_moveSome_48 ?_
        refine lv_iload_n hx hb dX2_moveSome_51 rfl (lv_at hl 0 rfl) ?_
        refine r_ld (i := 1024 * (1 - ci) + (cu + j)) hx hb hK hP 1 0 rfl rfl (by omega) (by omega) dX2_moveSome_52 ?_
        refine r_eq (z := q_sw (Y.2.1 (cu + j))) (q_RT_s h6 (by omega)) ?_
        refine lv_iconst (v := 1) hx hb dX2_moveSome_53 (by decide) ?_
        refine lv_icmp_ne (tgt := 104) hx hb dX2_moveSome_54 (by decide) (fun c_54 => ?_) (fun c_54 => ?_)
        · have n2 : ¬ Y.2.1 (cu + j) = 2 := fun z => c_54 (q_sw_1.mpr z)
          refine lv_aload_n hx hb dX2_moveSome_104 rfl (lv_at hl 1 rfl) ?_
          refine lv_dup hx hb dX2_moveSome_105 rfl ?_
          refine va_get (D := (dC, dI)) (ci := 2) (v := .int (nI (cu + j))) (C := RX2) (T := TX2) (N := 12) hx hb hts hin_X2_moveSome_X2 hown hK hP 0 rfl rfl 8 (by decide) (hts (.fieldLink RX2 46 "StepMapModel" "cursor" "I") (by decide +kernel)) (fun _ h9 => h9) rfl dX2_moveSome_106 ?_
          refine lv_iconst (v := 1) hx hb dX2_moveSome_109 (by decide) ?_
          refine lv_iadd hx hb dX2_moveSome_110 ?_
          refine r_eq (z := nI ((cu + j) + 1)) (nI_add (cu + j) 1) ?_
          refine va_put (D := (dC, dI)) (ci := 2) (v := .int (nI ((cu + j) + 1))) (ty := .int) (C := RX2) (T := TX2) (N := 12) hx hb hts hin_X2_moveSome_X2 tyX2 tyX2_ok nmX2 hown hK hP hD hS 0 rfl rfl 8 (by decide) (hts (.fieldLink RX2 46 "StepMapModel" "cursor" "I") (by decide +kernel)) (fun _ h9 => h9) rfl (by decide +kernel) (rfl) (rfl) (Nat.le_of_ble_eq_true rfl) dX2_moveSome_111 (fun H locs hP hD hS => ?_)
          have hP : va_P (dC, dI) vwCl [(g0, .inr (2, [.int x0, .int (nI L), .ref gs, .ref gk, .ref gv, .ref gz, .int (nI ci), .int x7, .int (nI ((cu + j) + 1)), .int x9, .int (nI (w + 1)), .int x11])), (gs, .inl (cI, 2048, .inl Sx)), (gk, .inl (cI, 2048, .inl Kx)), (gv, .inl (cI, 2048, .inl Vx)), (gz, .inl (cI, 2, .inl Zx))] H := hP
          have hD : va_D Aq [(g0, .inr (2, [.int x0, .int (nI L), .ref gs, .ref gk, .ref gv, .ref gz, .int (nI ci), .int x7, .int (nI ((cu + j) + 1)), .int x9, .int (nI (w + 1)), .int x11])), (gs, .inl (cI, 2048, .inl Sx)), (gk, .inl (cI, 2048, .inl Kx)), (gv, .inl (cI, 2048, .inl Vx)), (gz, .inl (cI, 2, .inl Zx))] := hD
          refine lv_iinc (v := nI (j + 1)) (lv' := [(2, .int (nI (j + 1))), (3, .int (nI (1024 * (1 - ci) + (cu + j)))), (0, .ref g0), (1, .int (nI (1 - ci)))]) hx hb dX2_moveSome_114 hl (k := 3) rfl (nI_1 _) (by decide) rfl (fun ls hl => ?_)
          refine lv_goto (tgt := 9) hx hb dX2_moveSome_117 (by decide) ?_
          have e_0_8 : nI ((cu + j) + 1) = nI (cu + (j + 1)) := congrArg nI (by omega)
          have hP : va_P (dC, dI) vwCl [(g0, .inr (2, [.int x0, .int (nI L), .ref gs, .ref gk, .ref gv, .ref gz, .int (nI ci), .int x7, .int (nI (cu + (j + 1))), .int x9, .int (nI (w + 1)), .int x11])), (gs, .inl (cI, 2048, .inl Sx)), (gk, .inl (cI, 2048, .inl Kx)), (gv, .inl (cI, 2048, .inl Vx)), (gz, .inl (cI, 2, .inl Zx))] H := by rw [← e_0_8]; exact hP
          have hD : va_D Aq [(g0, .inr (2, [.int x0, .int (nI L), .ref gs, .ref gk, .ref gv, .ref gz, .int (nI ci), .int x7, .int (nI (cu + (j + 1))), .int x9, .int (nI (w + 1)), .int x11])), (gs, .inl (cI, 2048, .inl Sx)), (gk, .inl (cI, 2048, .inl Kx)), (gv, .inl (cI, 2048, .inl Vx)), (gz, .inl (cI, 2, .inl Zx))] := by rw [← e_0_8]; exact hD
          have h7 : (q_mvs f X Y (cu + (j + 1))).1 = RA := by rw [q_mvs_0 n2] at h7; exact h7
          have h8 : (q_mvs f X Y (cu + (j + 1))).2.1 = RB := by rw [q_mvs_0 n2] at h8; exact h8
          have h9 : w + (1 + (q_mvs f X Y (cu + (j + 1))).2.2) = RW := by rw [q_mvs_0 n2] at h9; exact h9
          obtain ⟨b1, b2, b3, b4⟩ := q_mv_ok h2 (show cu + j < Y.1 by omega)
          rw [q_mv_0 n2] at b3
          exact ih (j + 1) (w + 1) X Y Sx Kx Vx ⟨by omega, b3, h3, h4, h5, h6, h7, h8, by omega⟩ H locs ls hP hD hS (lv_sub hl [2, 3, 0] rfl)
        · have m2 := q_sw_1.mp c_54
          have he := q_lkE_lt (t := X) (Y.2.2.1 (cu + j)) (by omega)
          refine lv_aload_n hx hb dX2_moveSome_57 rfl (lv_at hl 1 rfl) ?_
          refine lv_aload_n hx hb dX2_moveSome_58 rfl (lv_at hl 1 rfl) ?_
          refine va_get (D := (dC, dI)) (ci := 2) (v := .ref gk) (C := RX2) (T := TX2) (N := 12) hx hb hts hin_X2_moveSome_X2 hown hK hP 0 rfl rfl 3 (by decide) (hts (.fieldLink RX2 13 "StepMapModel" "keys" "[I") (by decide +kernel)) (fun _ h9 => h9) rfl dX2_moveSome_59 ?_
          refine lv_iload_n hx hb dX2_moveSome_62 rfl (lv_at hl 0 rfl) ?_
          refine r_ld (i := 1024 * (1 - ci) + (cu + j)) hx hb hK hP 2 0 rfl rfl (by omega) (by omega) dX2_moveSome_63 ?_
          refine r_eq (z := Y.2.2.1 (cu + j)) (q_RT_k h6 (by omega) m2) ?_
          refine lv_aload_n hx hb dX2_moveSome_64 rfl (lv_at hl 1 rfl) ?_
          refine va_get (D := (dC, dI)) (ci := 2) (v := .int (nI ci)) (C := RX2) (T := TX2) (N := 12) hx hb hts hin_X2_moveSome_X2 hown hK hP 0 rfl rfl 6 (by decide) (hts (.fieldLink RX2 43 "StepMapModel" "current" "I") (by decide +kernel)) (fun _ h9 => h9) rfl dX2_moveSome_65 ?_
          refine r_muI (wr := []) (rest := []) S0 (c_X2_look l dC dI cI g0 gs gk gv gz L Sx Kx Vx Zx x0 (nI ci) x7 (nI (cu + j)) x9 x11 (w + 1) ci X (Y.2.2.1 (cu + j)) H.size (by omega) (by rw [h3]; exact hzA) (by rw [h3]; exact hpA) h5 (q_MI_EM h2)) (cwV 2 hts gX2_moveSome_X2_look rfl rfl rfl (by decide +kernel) ⟨Nat.le_of_ble_eq_true rfl, Nat.le_of_ble_eq_true rfl⟩) hK hP hD hS hA [0, 1, 2, 3, 4] [] rfl rfl (by decide) (by decide) (by decide) (ci := 2) (q0 := 0) rfl rfl rfl rfl hl.1 rfl (Nat.le_of_ble_eq_true rfl) dX2_moveSome_68 ⟨Nat.zero_le _, Nat.zero_le _⟩ (fun r_68 _ H locs hu hP hD hS => ?_)
          have hP : va_P (dC, dI) vwCl [(g0, .inr (2, [.int x0, .int (nI L), .ref gs, .ref gk, .ref gv, .ref gz, .int (nI ci), .int x7, .int (nI (cu + j)), .int x9, .int (nI ((w + 1) + (q_lkD X (Y.2.2.1 (cu + j)) + 1))), .int x11])), (gs, .inl (cI, 2048, .inl Sx)), (gk, .inl (cI, 2048, .inl Kx)), (gv, .inl (cI, 2048, .inl Vx)), (gz, .inl (cI, 2, .inl Zx))] H := hP.sub [0, 1, 2, 3, 4] rfl
          have hD : va_D Aq [(g0, .inr (2, [.int x0, .int (nI L), .ref gs, .ref gk, .ref gv, .ref gz, .int (nI ci), .int x7, .int (nI (cu + j)), .int x9, .int (nI ((w + 1) + (q_lkD X (Y.2.2.1 (cu + j)) + 1))), .int x11])), (gs, .inl (cI, 2048, .inl Sx)), (gk, .inl (cI, 2048, .inl Kx)), (gv, .inl (cI, 2048, .inl Vx)), (gz, .inl (cI, 2, .inl Zx))] := hD.sub [0, 1, 2, 3, 4] (by decide) rfl
          have hu : r_68 = q_lkR X (Y.2.2.1 (cu + j)) := hu
          subst hu
          refine r_eq (z := -1 - nI (q_lkE X (Y.2.2.1 (cu + j)))) (q_lkR_f (q_MI_miss h2 (by omega) m2)) ?_
          refine lv_istore (lv' := [(4, .int (-1 - nI (q_lkE X (Y.2.2.1 (cu + j))))), (3, .int (nI (1024 * (1 - ci) + (cu + j)))), (0, .ref g0), (1, .int (nI (1 - ci))), (2, .int (nI j))]) hx hb dX2_moveSome_71 hl (by decide) rfl (fun ls hl => ?_)
          refine lv_aload_n hx hb dX2_moveSome_73 rfl (lv_at hl 2 rfl) ?_
          refine lv_aload_n hx hb dX2_moveSome_74 rfl (lv_at hl 2 rfl) ?_
          refine va_get (D := (dC, dI)) (ci := 2) (v := .int (nI ci)) (C := RX2) (T := TX2) (N := 12) hx hb hts hin_X2_moveSome_X2 hown hK hP 0 rfl rfl 6 (by decide) (hts (.fieldLink RX2 43 "StepMapModel" "current" "I") (by decide +kernel)) (fun _ h9 => h9) rfl dX2_moveSome_75 ?_
          refine lv_iconst (v := -1) hx hb dX2_moveSome_78 (by decide) ?_
          refine lv_iload hx hb dX2_moveSome_79 (lv_at hl 0 rfl) ?_
          refine lv_isub hx hb dX2_moveSome_81 ?_
          refine r_eq (z := nI (q_lkE X (Y.2.2.1 (cu + j)))) (q_neg1' _) ?_
          refine lv_aload_n hx hb dX2_moveSome_82 rfl (lv_at hl 2 rfl) ?_
          refine va_get (D := (dC, dI)) (ci := 2) (v := .ref gk) (C := RX2) (T := TX2) (N := 12) hx hb hts hin_X2_moveSome_X2 hown hK hP 0 rfl rfl 3 (by decide) (hts (.fieldLink RX2 13 "StepMapModel" "keys" "[I") (by decide +kernel)) (fun _ h9 => h9) rfl dX2_moveSome_83 ?_
          refine lv_iload_n hx hb dX2_moveSome_86 rfl (lv_at hl 1 rfl) ?_
          refine r_ld (i := 1024 * (1 - ci) + (cu + j)) hx hb hK hP 2 0 rfl rfl (by omega) (by omega) dX2_moveSome_87 ?_
          refine r_eq (z := Y.2.2.1 (cu + j)) (q_RT_k h6 (by omega) m2) ?_
          refine lv_aload_n hx hb dX2_moveSome_88 rfl (lv_at hl 2 rfl) ?_
          refine va_get (D := (dC, dI)) (ci := 2) (v := .ref gv) (C := RX2) (T := TX2) (N := 12) hx hb hts hin_X2_moveSome_X2 hown hK hP 0 rfl rfl 4 (by decide) (hts (.fieldLink RX2 16 "StepMapModel" "values" "[I") (by decide +kernel)) (fun _ h9 => h9) rfl dX2_moveSome_89 ?_
          refine lv_iload_n hx hb dX2_moveSome_92 rfl (lv_at hl 1 rfl) ?_
          refine r_ld (i := 1024 * (1 - ci) + (cu + j)) hx hb hK hP 3 0 rfl rfl (by omega) (by omega) dX2_moveSome_93 ?_
          refine r_eq (z := Y.2.2.2 (cu + j)) (q_RT_v h6 (by omega) m2) ?_
          refine r_muV (wr := []) (rest := []) S0 (c_X2_lay l dC dI cI g0 gs gk gv gz L Sx Kx Vx Zx x0 (nI ci) x7 (nI (cu + j)) x9 (nI ((w + 1) + (q_lkD X (Y.2.2.1 (cu + j)) + 1))) x11 ci (q_lkE X (Y.2.2.1 (cu + j))) (Y.2.2.1 (cu + j)) (Y.2.2.2 (cu + j)) H.size (by omega)) (cwV 4 hts gX2_moveSome_X2_lay rfl rfl rfl (by decide +kernel) ⟨Nat.le_of_ble_eq_true rfl, Nat.le_of_ble_eq_true rfl⟩) hK hP hD hS hA [0, 1, 2, 3, 4] [] rfl rfl (by decide) (by decide) (by decide) (ci := 2) (q0 := 0) rfl rfl rfl rfl hl.1 rfl (Nat.le_of_ble_eq_true rfl) dX2_moveSome_94 ⟨Nat.zero_le _, Nat.zero_le _⟩ (fun _ H locs hu hP hD hS => ?_)
          have hP : va_P (dC, dI) vwCl [(g0, .inr (2, [.int x0, .int (nI L), .ref gs, .ref gk, .ref gv, .ref gz, .int (nI ci), .int x7, .int (nI (cu + j)), .int x9, .int (nI ((w + 1) + (q_lkD X (Y.2.2.1 (cu + j)) + 1))), .int x11])), (gs, .inl (cI, 2048, .inl (upd Sx (1024 * ci + (q_lkE X (Y.2.2.1 (cu + j)))) 1))), (gk, .inl (cI, 2048, .inl (upd Kx (1024 * ci + (q_lkE X (Y.2.2.1 (cu + j)))) (Y.2.2.1 (cu + j))))), (gv, .inl (cI, 2048, .inl (upd Vx (1024 * ci + (q_lkE X (Y.2.2.1 (cu + j)))) (Y.2.2.2 (cu + j))))), (gz, .inl (cI, 2, .inl Zx))] H := hP.sub [0, 1, 2, 3, 4] rfl
          have hD : va_D Aq [(g0, .inr (2, [.int x0, .int (nI L), .ref gs, .ref gk, .ref gv, .ref gz, .int (nI ci), .int x7, .int (nI (cu + j)), .int x9, .int (nI ((w + 1) + (q_lkD X (Y.2.2.1 (cu + j)) + 1))), .int x11])), (gs, .inl (cI, 2048, .inl (upd Sx (1024 * ci + (q_lkE X (Y.2.2.1 (cu + j)))) 1))), (gk, .inl (cI, 2048, .inl (upd Kx (1024 * ci + (q_lkE X (Y.2.2.1 (cu + j)))) (Y.2.2.1 (cu + j))))), (gv, .inl (cI, 2048, .inl (upd Vx (1024 * ci + (q_lkE X (Y.2.2.1 (cu + j)))) (Y.2.2.2 (cu + j))))), (gz, .inl (cI, 2, .inl Zx))] := hD.sub [0, 1, 2, 3, 4] (by decide) rfl
          refine lv_aload_n hx hb dX2_moveSome_97 rfl (lv_at hl 2 rfl) ?_
          refine va_get (D := (dC, dI)) (ci := 2) (v := .ref gs) (C := RX2) (T := TX2) (N := 12) hx hb hts hin_X2_moveSome_X2 hown hK hP 0 rfl rfl 2 (by decide) (hts (.fieldLink RX2 7 "StepMapModel" "states" "[I") (by decide +kernel)) (fun _ h9 => h9) rfl dX2_moveSome_98 ?_
          refine lv_iload_n hx hb dX2_moveSome_101 rfl (lv_at hl 1 rfl) ?_
          refine lv_iconst (v := 2) hx hb dX2_moveSome_102 (by decide) ?_
          refine r_st (i := 1024 * (1 - ci) + (cu + j)) hx hb hK hP hD hS 1 0 rfl rfl (by omega) (by omega) dX2_moveSome_103 (fun H locs hP hD hS => ?_)
          have hP : va_P (dC, dI) vwCl [(g0, .inr (2, [.int x0, .int (nI L), .ref gs, .ref gk, .ref gv, .ref gz, .int (nI ci), .int x7, .int (nI (cu + j)), .int x9, .int (nI ((w + 1) + (q_lkD X (Y.2.2.1 (cu + j)) + 1))), .int x11])), (gs, .inl (cI, 2048, .inl (upd (upd Sx (1024 * ci + (q_lkE X (Y.2.2.1 (cu + j)))) 1) (1024 * (1 - ci) + (cu + j)) 2))), (gk, .inl (cI, 2048, .inl (upd Kx (1024 * ci + (q_lkE X (Y.2.2.1 (cu + j)))) (Y.2.2.1 (cu + j))))), (gv, .inl (cI, 2048, .inl (upd Vx (1024 * ci + (q_lkE X (Y.2.2.1 (cu + j)))) (Y.2.2.2 (cu + j))))), (gz, .inl (cI, 2, .inl Zx))] H := hP
          have hD : va_D Aq [(g0, .inr (2, [.int x0, .int (nI L), .ref gs, .ref gk, .ref gv, .ref gz, .int (nI ci), .int x7, .int (nI (cu + j)), .int x9, .int (nI ((w + 1) + (q_lkD X (Y.2.2.1 (cu + j)) + 1))), .int x11])), (gs, .inl (cI, 2048, .inl (upd (upd Sx (1024 * ci + (q_lkE X (Y.2.2.1 (cu + j)))) 1) (1024 * (1 - ci) + (cu + j)) 2))), (gk, .inl (cI, 2048, .inl (upd Kx (1024 * ci + (q_lkE X (Y.2.2.1 (cu + j)))) (Y.2.2.1 (cu + j))))), (gv, .inl (cI, 2048, .inl (upd Vx (1024 * ci + (q_lkE X (Y.2.2.1 (cu + j)))) (Y.2.2.2 (cu + j))))), (gz, .inl (cI, 2, .inl Zx))] := hD
          refine lv_aload_n hx hb dX2_moveSome_104 rfl (lv_at hl 2 rfl) ?_
          refine lv_dup hx hb dX2_moveSome_105 rfl ?_
          refine va_get (D := (dC, dI)) (ci := 2) (v := .int (nI (cu + j))) (C := RX2) (T := TX2) (N := 12) hx hb hts hin_X2_moveSome_X2 hown hK hP 0 rfl rfl 8 (by decide) (hts (.fieldLink RX2 46 "StepMapModel" "cursor" "I") (by decide +kernel)) (fun _ h9 => h9) rfl dX2_moveSome_106 ?_
          refine lv_iconst (v := 1) hx hb dX2_moveSome_109 (by decide) ?_
          refine lv_iadd hx hb dX2_moveSome_110 ?_
          refine r_eq (z := nI ((cu + j) + 1)) (nI_add (cu + j) 1) ?_
          refine va_put (D := (dC, dI)) (ci := 2) (v := .int (nI ((cu + j) + 1))) (ty := .int) (C := RX2) (T := TX2) (N := 12) hx hb hts hin_X2_moveSome_X2 tyX2 tyX2_ok nmX2 hown hK hP hD hS 0 rfl rfl 8 (by decide) (hts (.fieldLink RX2 46 "StepMapModel" "cursor" "I") (by decide +kernel)) (fun _ h9 => h9) rfl (by decide +kernel) (rfl) (rfl) (Nat.le_of_ble_eq_true rfl) dX2_moveSome_111 (fun H locs hP hD hS => ?_)
          have hP : va_P (dC, dI) vwCl [(g0, .inr (2, [.int x0, .int (nI L), .ref gs, .ref gk, .ref gv, .ref gz, .int (nI ci), .int x7, .int (nI ((cu + j) + 1)), .int x9, .int (nI ((w + 1) + (q_lkD X (Y.2.2.1 (cu + j)) + 1))), .int x11])), (gs, .inl (cI, 2048, .inl (upd (upd Sx (1024 * ci + (q_lkE X (Y.2.2.1 (cu + j)))) 1) (1024 * (1 - ci) + (cu + j)) 2))), (gk, .inl (cI, 2048, .inl (upd Kx (1024 * ci + (q_lkE X (Y.2.2.1 (cu + j)))) (Y.2.2.1 (cu + j))))), (gv, .inl (cI, 2048, .inl (upd Vx (1024 * ci + (q_lkE X (Y.2.2.1 (cu + j)))) (Y.2.2.2 (cu + j))))), (gz, .inl (cI, 2, .inl Zx))] H := hP
          have hD : va_D Aq [(g0, .inr (2, [.int x0, .int (nI L), .ref gs, .ref gk, .ref gv, .ref gz, .int (nI ci), .int x7, .int (nI ((cu + j) + 1)), .int x9, .int (nI ((w + 1) + (q_lkD X (Y.2.2.1 (cu + j)) + 1))), .int x11])), (gs, .inl (cI, 2048, .inl (upd (upd Sx (1024 * ci + (q_lkE X (Y.2.2.1 (cu + j)))) 1) (1024 * (1 - ci) + (cu + j)) 2))), (gk, .inl (cI, 2048, .inl (upd Kx (1024 * ci + (q_lkE X (Y.2.2.1 (cu + j)))) (Y.2.2.1 (cu + j))))), (gv, .inl (cI, 2048, .inl (upd Vx (1024 * ci + (q_lkE X (Y.2.2.1 (cu + j)))) (Y.2.2.2 (cu + j))))), (gz, .inl (cI, 2, .inl Zx))] := hD
          refine lv_iinc (v := nI (j + 1)) (lv' := [(2, .int (nI (j + 1))), (4, .int (-1 - nI (q_lkE X (Y.2.2.1 (cu + j))))), (3, .int (nI (1024 * (1 - ci) + (cu + j)))), (0, .ref g0), (1, .int (nI (1 - ci)))]) hx hb dX2_moveSome_114 hl (k := 4) rfl (nI_1 _) (by decide) rfl (fun ls hl => ?_)
          refine lv_goto (tgt := 9) hx hb dX2_moveSome_117 (by decide) ?_
          have e_0_8 : nI ((cu + j) + 1) = nI (cu + (j + 1)) := congrArg nI (by omega)
          have hP : va_P (dC, dI) vwCl [(g0, .inr (2, [.int x0, .int (nI L), .ref gs, .ref gk, .ref gv, .ref gz, .int (nI ci), .int x7, .int (nI (cu + (j + 1))), .int x9, .int (nI ((w + 1) + (q_lkD X (Y.2.2.1 (cu + j)) + 1))), .int x11])), (gs, .inl (cI, 2048, .inl (upd (upd Sx (1024 * ci + (q_lkE X (Y.2.2.1 (cu + j)))) 1) (1024 * (1 - ci) + (cu + j)) 2))), (gk, .inl (cI, 2048, .inl (upd Kx (1024 * ci + (q_lkE X (Y.2.2.1 (cu + j)))) (Y.2.2.1 (cu + j))))), (gv, .inl (cI, 2048, .inl (upd Vx (1024 * ci + (q_lkE X (Y.2.2.1 (cu + j)))) (Y.2.2.2 (cu + j))))), (gz, .inl (cI, 2, .inl Zx))] H := by rw [← e_0_8]; exact hP
          have hD : va_D Aq [(g0, .inr (2, [.int x0, .int (nI L), .ref gs, .ref gk, .ref gv, .ref gz, .int (nI ci), .int x7, .int (nI (cu + (j + 1))), .int x9, .int (nI ((w + 1) + (q_lkD X (Y.2.2.1 (cu + j)) + 1))), .int x11])), (gs, .inl (cI, 2048, .inl (upd (upd Sx (1024 * ci + (q_lkE X (Y.2.2.1 (cu + j)))) 1) (1024 * (1 - ci) + (cu + j)) 2))), (gk, .inl (cI, 2048, .inl (upd Kx (1024 * ci + (q_lkE X (Y.2.2.1 (cu + j)))) (Y.2.2.1 (cu + j))))), (gv, .inl (cI, 2048, .inl (upd Vx (1024 * ci + (q_lkE X (Y.2.2.1 (cu + j)))) (Y.2.2.2 (cu + j))))), (gz, .inl (cI, 2, .inl Zx))] := by rw [← e_0_8]; exact hD
          have h7 : (q_mvs f (q_fl X (q_lkE X (Y.2.2.1 (cu + j))) (Y.2.2.1 (cu + j)) (Y.2.2.2 (cu + j))) (q_tk Y (cu + j)) (cu + (j + 1))).1 = RA := by rw [q_mvs_1 m2] at h7; exact h7
          have h8 : (q_mvs f (q_fl X (q_lkE X (Y.2.2.1 (cu + j))) (Y.2.2.1 (cu + j)) (Y.2.2.2 (cu + j))) (q_tk Y (cu + j)) (cu + (j + 1))).2.1 = RB := by rw [q_mvs_1 m2] at h8; exact h8
          have h9 : w + (q_lkD X (Y.2.2.1 (cu + j)) + 2 + (q_mvs f (q_fl X (q_lkE X (Y.2.2.1 (cu + j))) (Y.2.2.1 (cu + j)) (Y.2.2.2 (cu + j))) (q_tk Y (cu + j)) (cu + (j + 1))).2.2) = RW := by rw [q_mvs_1 m2] at h9; exact h9
          obtain ⟨b1, b2, b3, b4⟩ := q_mv_ok h2 (show cu + j < Y.1 by omega)
          rw [q_mv_1 m2] at b3
          have g5 := q_RT_oS (p := 1024 * (1 - ci) + (cu + j)) (x := 2) (q_RT_fl (e := q_lkE X (Y.2.2.1 (cu + j))) (k := Y.2.2.1 (cu + j)) (v := Y.2.2.2 (cu + j)) h5) (fun i hi => by have hi : i < X.1 := hi; omega)
          have g6 := q_RT_tk (e := cu + j) (q_RT_o (p := 1024 * ci + q_lkE X (Y.2.2.1 (cu + j))) (x := 1) (y := Y.2.2.1 (cu + j)) (z := Y.2.2.2 (cu + j)) h6 (fun i hi => by omega))
          exact ih (j + 1) (w + 1 + (q_lkD X (Y.2.2.1 (cu + j)) + 1)) (q_fl X (q_lkE X (Y.2.2.1 (cu + j))) (Y.2.2.1 (cu + j)) (Y.2.2.2 (cu + j))) (q_tk Y (cu + j)) (upd (upd Sx (1024 * ci + (q_lkE X (Y.2.2.1 (cu + j)))) 1) (1024 * (1 - ci) + (cu + j)) 2) (upd Kx (1024 * ci + (q_lkE X (Y.2.2.1 (cu + j)))) (Y.2.2.1 (cu + j))) (upd Vx (1024 * ci + (q_lkE X (Y.2.2.1 (cu + j)))) (Y.2.2.2 (cu + j))) ⟨by omega, b3, h3, h4, g5, g6, h7, h8, by omega⟩ H locs ls hP hD hS (lv_sub hl [3, 4, 0] rfl)
set_option maxHeartbeats 4000000 in
set_option maxRecDepth 100000 in
theorem c_X2_moveSome (l : Launch) (dC : Nat → ClassId) (dI : Nat → Nat → Nat) (cI : ClassId) (g0 gs gk gv gz L : Nat) (Sx Kx Vx Zx : Nat → Int32) (x0 x7 x9 x11 : Int32) (ci vi cu : Nat) (A B : q_TB) (sz : Nat) (hci : ci < 2) (hzA : Zx ci = nI A.1) (hzB : Zx (1 - ci) = nI B.1) (hpA : q_pw A.1) (hpB : q_pw B.1) (hM : q_MI A B cu) (hc4 : cu + 4 ≤ B.1) (hRTA : q_RT Sx Kx Vx ci A) (hRTB : q_RT Sx Kx Vx (1 - ci) B) : Met l yX2_moveSome wsX2_moveSome ({ frames := 2, cells := 0, slots := 0, locals := 47 }) (r_Mc (dC, dI) vwCl [(cI, .int)] [(g0, .inr (2, [.int x0, .int (nI L), .ref gs, .ref gk, .ref gv, .ref gz, .int (nI ci), .int x7, .int (nI cu), .int x9, .int (nI vi), .int x11])), (gs, .inl (cI, 2048, .inl Sx)), (gk, .inl (cI, 2048, .inl Kx)), (gv, .inl (cI, 2048, .inl Vx)), (gz, .inl (cI, 2, .inl Zx))] sz [.ref g0]) (va_Qv (fun (u : q_A3) => q_RT u.1 u.2.1 u.2.2 ci (q_mvs 4 A B cu).1 ∧ q_RT u.1 u.2.1 u.2.2 (1 - ci) (q_mvs 4 A B cu).2.1) (fun u t => r_B (dC, dI) vwCl [(cI, .int)] (va_A [(g0, .inr (2, [.int x0, .int (nI L), .ref gs, .ref gk, .ref gv, .ref gz, .int (nI ci), .int x7, .int (nI cu), .int x9, .int (nI vi), .int x11])), (gs, .inl (cI, 2048, .inl Sx)), (gk, .inl (cI, 2048, .inl Kx)), (gv, .inl (cI, 2048, .inl Vx)), (gz, .inl (cI, 2, .inl Zx))] sz) ((fun u => [(g0, .inr (2, [.int x0, .int (nI L), .ref gs, .ref gk, .ref gv, .ref gz, .int (nI ci), .int (q_b (cu + 4 < B.1)), .int (nI (cu + 4)), .int x9, .int (nI (vi + (q_mvs 4 A B cu).2.2)), .int x11])), (gs, .inl (cI, 2048, .inl u.1)), (gk, .inl (cI, 2048, .inl u.2.1)), (gv, .inl (cI, 2048, .inl u.2.2)), (gz, .inl (cI, 2, .inl Zx))]) u) t) (va_A [(g0, .inr (2, [.int x0, .int (nI L), .ref gs, .ref gk, .ref gv, .ref gz, .int (nI ci), .int x7, .int (nI cu), .int x9, .int (nI vi), .int x11])), (gs, .inl (cI, 2048, .inl Sx)), (gk, .inl (cI, 2048, .inl Kx)), (gv, .inl (cI, 2048, .inl Vx)), (gz, .inl (cI, 2, .inl Zx))] sz)) 0 0 (va_A [(g0, .inr (2, [.int x0, .int (nI L), .ref gs, .ref gk, .ref gv, .ref gz, .int (nI ci), .int x7, .int (nI cu), .int x9, .int (nI vi), .int x11])), (gs, .inl (cI, 2048, .inl Sx)), (gk, .inl (cI, 2048, .inl Kx)), (gv, .inl (cI, 2048, .inl Vx)), (gz, .inl (cI, 2, .inl Zx))] sz) := by
  refine Met.ofW (cc := cX2_moveSome) (maxL := 5) (ret := none) (by decide) rfl ?_
  intro p e s m args below meth c s₁ Bd hml hv
  obtain ⟨rfl, hsz, hP, hK, hD0⟩ := hv
  have hx := Bd.exec
  have hb := Bd.bytes
  have hr := Bd.returns
  have hts := atoms_spec (ws := wsX2_moveSome) Bd.pre
  have hown : s.vm.findClass RX2 = some m.cls := findClass_of_methodNamed Bd.named
  have hlocks := Bd.notSynchronized
  have S0 : CallFix p m c cX2_moveSome 5 s _ wsX2_moveSome RX2 := ⟨hx, hb, hml, hown, hts⟩
  subst hsz
  have hD := hD0.self (sz := s.heap.size)
  generalize hAe : va_A [(g0, .inr (2, [.int x0, .int (nI L), .ref gs, .ref gk, .ref gv, .ref gz, .int (nI ci), .int x7, .int (nI cu), .int x9, .int (nI vi), .int x11])), (gs, .inl (cI, 2048, .inl Sx)), (gk, .inl (cI, 2048, .inl Kx)), (gv, .inl (cI, 2048, .inl Vx)), (gz, .inl (cI, 2, .inl Zx))] s.heap.size = Aq at hD ⊢
  have hA : ∀ q : Nat, s.heap.size ≤ q → Aq q := fun q h => by rw [← hAe]; exact Or.inr h
  have hS : va_S Aq s.heap s.heap [] := va_S.rf
  have hD : va_D Aq [(g0, .inr (2, [.int x0, .int (nI L), .ref gs, .ref gk, .ref gv, .ref gz, .int (nI ci), .int x7, .int (nI cu), .int x9, .int (nI vi), .int x11])), (gs, .inl (cI, 2048, .inl Sx)), (gk, .inl (cI, 2048, .inl Kx)), (gv, .inl (cI, 2048, .inl Vx)), (gz, .inl (cI, 2, .inl Zx))] := hD
  have hP : va_P (dC, dI) vwCl [(g0, .inr (2, [.int x0, .int (nI L), .ref gs, .ref gk, .ref gv, .ref gz, .int (nI ci), .int x7, .int (nI cu), .int x9, .int (nI vi), .int x11])), (gs, .inl (cI, 2048, .inl Sx)), (gk, .inl (cI, 2048, .inl Kx)), (gv, .inl (cI, 2048, .inl Vx)), (gz, .inl (cI, 2, .inl Zx))] s.heap := hP
  have hl := lv_entry ([.ref g0]) (n := 5) (Nat.le_of_ble_eq_true rfl)
  rw [lg_entry_eq]
  generalize (lg_sl ([.ref g0]) ++ List.replicate (5 - (lg_sl ([.ref g0])).length) Slot.unset).toArray = ls at hl ⊢
  have hl : lv_has ls 5 [(0, .ref g0)] := hl
  have hA8 := q_pw_8 hpA
  have hB8 := q_pw_8 hpB
  refine lv_iconst (v := 1) hx hb dX2_moveSome_0 (by decide) ?_
  refine lv_aload_n hx hb dX2_moveSome_1 rfl (lv_at hl 0 rfl) ?_
  refine va_get (D := (dC, dI)) (ci := 2) (v := .int (nI ci)) (C := RX2) (T := TX2) (N := 12) hx hb hts hin_X2_moveSome_X2 hown hK hP 0 rfl rfl 6 (by decide) (hts (.fieldLink RX2 43 "StepMapModel" "current" "I") (by decide +kernel)) (fun _ h9 => h9) rfl dX2_moveSome_2 ?_
  refine lv_isub hx hb dX2_moveSome_5 ?_
  refine r_eq (z := nI (1 - ci)) (pk_sub (a := 1) (by omega)) ?_
  refine lv_istore_n (lv' := [(1, .int (nI (1 - ci))), (0, .ref g0)]) hx hb dX2_moveSome_6 rfl hl (by decide) rfl (fun ls hl => ?_)
  refine lv_iconst (v := 0) hx hb dX2_moveSome_7 (by decide) ?_
  refine lv_istore_n (lv' := [(2, .int 0), (1, .int (nI (1 - ci))), (0, .ref g0)]) hx hb dX2_moveSome_8 rfl hl (by decide) rfl (fun ls hl => ?_)
  obtain ⟨RA, hRA⟩ : ∃ z, (q_mvs 4 A B cu).1 = z := ⟨_, rfl⟩
  obtain ⟨RB, hRB⟩ : ∃ z, (q_mvs 4 A B cu).2.1 = z := ⟨_, rfl⟩
  obtain ⟨RW, hRW⟩ : ∃ z, vi + (q_mvs 4 A B cu).2.2 = z := ⟨_, rfl⟩
  refine lp_X2_moveSome S0 hK hA g0 gs gk gv gz L Zx x0 x7 x9 x11 ci cu A.1 B.1 RW RA RB hci hzA hzB hpA hpB hc4 (fun Sy Ky Vy g5 g6 H locs ls hP hD hS hl => ?_) 4 0 vi A B Sx Kx Vx ⟨rfl, hM, rfl, rfl, hRTA, hRTB, hRA, hRB, hRW⟩ s.heap [] ls hP hD hS (lv_sub hl [2, 1, 0] rfl)
  refine lv_aload_n hx hb dX2_moveSome_120 rfl (lv_at hl 0 rfl) ?_
  refine lv_aload_n hx hb dX2_moveSome_121 rfl (lv_at hl 0 rfl) ?_
  refine va_get (D := (dC, dI)) (ci := 2) (v := .int (nI (cu + 4))) (C := RX2) (T := TX2) (N := 12) hx hb hts hin_X2_moveSome_X2 hown hK hP 0 rfl rfl 8 (by decide) (hts (.fieldLink RX2 46 "StepMapModel" "cursor" "I") (by decide +kernel)) (fun _ h9 => h9) rfl dX2_moveSome_122 ?_
  refine lv_aload_n hx hb dX2_moveSome_125 rfl (lv_at hl 0 rfl) ?_
  refine va_get (D := (dC, dI)) (ci := 2) (v := .ref gz) (C := RX2) (T := TX2) (N := 12) hx hb hts hin_X2_moveSome_X2 hown hK hP 0 rfl rfl 5 (by decide) (hts (.fieldLink RX2 19 "StepMapModel" "sizes" "[I") (by decide +kernel)) (fun _ h9 => h9) rfl dX2_moveSome_126 ?_
  refine lv_iload_n hx hb dX2_moveSome_129 rfl (lv_at hl 1 rfl) ?_
  refine r_ld (i := 1 - ci) hx hb hK hP 4 0 rfl rfl (by omega) (by omega) dX2_moveSome_130 ?_
  refine r_eq (z := nI B.1) (hzB) ?_
  refine lv_icmp_ge (tgt := 138) hx hb dX2_moveSome_131 (by decide) (fun c_131 => ?_) (fun c_131 => ?_)
  · have h_131 := q_le_t (a := B.1) (b := cu + 4) (by omega) (by omega) c_131
    refine lv_iconst (v := 0) hx hb dX2_moveSome_138 (by decide) ?_
    refine va_put (D := (dC, dI)) (ci := 2) (v := .int 0) (ty := .boolean) (C := RX2) (T := TX2) (N := 12) hx hb hts hin_X2_moveSome_X2 tyX2 tyX2_ok nmX2 hown hK hP hD hS 0 rfl rfl 7 (by decide) (hts (.fieldLink RX2 56 "StepMapModel" "moving" "Z") (by decide +kernel)) (fun _ h9 => h9) rfl (by decide +kernel) (rfl) (rfl) (Nat.le_of_ble_eq_true rfl) dX2_moveSome_139 (fun H locs hP hD hS => ?_)
    have hP : va_P (dC, dI) vwCl [(g0, .inr (2, [.int x0, .int (nI L), .ref gs, .ref gk, .ref gv, .ref gz, .int (nI ci), .int 0, .int (nI (cu + 4)), .int x9, .int (nI RW), .int x11])), (gs, .inl (cI, 2048, .inl Sy)), (gk, .inl (cI, 2048, .inl Ky)), (gv, .inl (cI, 2048, .inl Vy)), (gz, .inl (cI, 2, .inl Zx))] H := hP
    have hD : va_D Aq [(g0, .inr (2, [.int x0, .int (nI L), .ref gs, .ref gk, .ref gv, .ref gz, .int (nI ci), .int 0, .int (nI (cu + 4)), .int x9, .int (nI RW), .int x11])), (gs, .inl (cI, 2048, .inl Sy)), (gk, .inl (cI, 2048, .inl Ky)), (gv, .inl (cI, 2048, .inl Vy)), (gz, .inl (cI, 2, .inl Zx))] := hD
    have e_0_7 : 0 = q_b (cu + 4 < B.1) := (q_b_f (by omega)).symm
    have hP : va_P (dC, dI) vwCl [(g0, .inr (2, [.int x0, .int (nI L), .ref gs, .ref gk, .ref gv, .ref gz, .int (nI ci), .int (q_b (cu + 4 < B.1)), .int (nI (cu + 4)), .int x9, .int (nI RW), .int x11])), (gs, .inl (cI, 2048, .inl Sy)), (gk, .inl (cI, 2048, .inl Ky)), (gv, .inl (cI, 2048, .inl Vy)), (gz, .inl (cI, 2, .inl Zx))] H := by rw [← e_0_7]; exact hP
    have hD : va_D Aq [(g0, .inr (2, [.int x0, .int (nI L), .ref gs, .ref gk, .ref gv, .ref gz, .int (nI ci), .int (q_b (cu + 4 < B.1)), .int (nI (cu + 4)), .int x9, .int (nI RW), .int x11])), (gs, .inl (cI, 2048, .inl Sy)), (gk, .inl (cI, 2048, .inl Ky)), (gv, .inl (cI, 2048, .inl Vy)), (gz, .inl (cI, 2, .inl Zx))] := by rw [← e_0_7]; exact hD
    subst hRA
    subst hRB
    subst hRW
    exact W.vret hx hb hr (fun t ht hW => ⟨⟨(Sy, Ky, Vy), rfl, ⟨g5, g6⟩, by rw [ht]; exact hP, va_K.moved hW.alike hK, hD⟩, hS.F ht⟩) hS.2.2 dX2_moveSome_142
  · have h_131 := q_le_f (a := B.1) (b := cu + 4) (by omega) (by omega) c_131
    refine lv_iconst (v := 1) hx hb dX2_moveSome_134 (by decide) ?_
    refine lv_goto (tgt := 139) hx hb dX2_moveSome_135 (by decide) ?_
    refine va_put (D := (dC, dI)) (ci := 2) (v := .int 1) (ty := .boolean) (C := RX2) (T := TX2) (N := 12) hx hb hts hin_X2_moveSome_X2 tyX2 tyX2_ok nmX2 hown hK hP hD hS 0 rfl rfl 7 (by decide) (hts (.fieldLink RX2 56 "StepMapModel" "moving" "Z") (by decide +kernel)) (fun _ h9 => h9) rfl (by decide +kernel) (rfl) (rfl) (Nat.le_of_ble_eq_true rfl) dX2_moveSome_139 (fun H locs hP hD hS => ?_)
    have hP : va_P (dC, dI) vwCl [(g0, .inr (2, [.int x0, .int (nI L), .ref gs, .ref gk, .ref gv, .ref gz, .int (nI ci), .int 1, .int (nI (cu + 4)), .int x9, .int (nI RW), .int x11])), (gs, .inl (cI, 2048, .inl Sy)), (gk, .inl (cI, 2048, .inl Ky)), (gv, .inl (cI, 2048, .inl Vy)), (gz, .inl (cI, 2, .inl Zx))] H := hP
    have hD : va_D Aq [(g0, .inr (2, [.int x0, .int (nI L), .ref gs, .ref gk, .ref gv, .ref gz, .int (nI ci), .int 1, .int (nI (cu + 4)), .int x9, .int (nI RW), .int x11])), (gs, .inl (cI, 2048, .inl Sy)), (gk, .inl (cI, 2048, .inl Ky)), (gv, .inl (cI, 2048, .inl Vy)), (gz, .inl (cI, 2, .inl Zx))] := hD
    have e_0_7 : 1 = q_b (cu + 4 < B.1) := (q_b_t (by omega)).symm
    have hP : va_P (dC, dI) vwCl [(g0, .inr (2, [.int x0, .int (nI L), .ref gs, .ref gk, .ref gv, .ref gz, .int (nI ci), .int (q_b (cu + 4 < B.1)), .int (nI (cu + 4)), .int x9, .int (nI RW), .int x11])), (gs, .inl (cI, 2048, .inl Sy)), (gk, .inl (cI, 2048, .inl Ky)), (gv, .inl (cI, 2048, .inl Vy)), (gz, .inl (cI, 2, .inl Zx))] H := by rw [← e_0_7]; exact hP
    have hD : va_D Aq [(g0, .inr (2, [.int x0, .int (nI L), .ref gs, .ref gk, .ref gv, .ref gz, .int (nI ci), .int (q_b (cu + 4 < B.1)), .int (nI (cu + 4)), .int x9, .int (nI RW), .int x11])), (gs, .inl (cI, 2048, .inl Sy)), (gk, .inl (cI, 2048, .inl Ky)), (gv, .inl (cI, 2048, .inl Vy)), (gz, .inl (cI, 2, .inl Zx))] := by rw [← e_0_7]; exact hD
    subst hRA
    subst hRB
    subst hRW
    exact W.vret hx hb hr (fun t ht hW => ⟨⟨(Sy, Ky, Vy), rfl, ⟨g5, g6⟩, by rw [ht]; exact hP, va_K.moved hW.alike hK, hD⟩, hS.F ht⟩) hS.2.2 dX2_moveSome_142
set_option maxHeartbeats 4000000 in
set_option maxRecDepth 100000 in
theorem lp_X2_become {p : Program} {l : Launch} {e : Env} {s : State} {m : MethodId} {args : Array Value} {below : List Frame} {meth : Method} {c : Code} {Q : State → Prop} {dC : Nat → ClassId} {dI : Nat → Nat → Nat} {cI : ClassId} {Aq : Nat → Prop} {H0 : Heap} (S0 : CallFix p m c cX2_become 3 s args wsX2_become RX2) (hK : va_K (dC, dI) vwCl [(cI, .int)] s) (hA : ∀ q : Nat, H0.size ≤ q → Aq q) (g0 gs gk gv gz L : Nat) (Sx Kx Vx Zx : Nat → Int32) (x0 x7 x8 x9 x10 x11 : Int32) (ci q : Nat) (hci : ci < 2) (hq : q ≤ 1024)
    (kk : ∀ (H : Heap) (locs : List Loc) (ls : Array Slot), va_P (dC, dI) vwCl [(g0, .inr (2, [.int x0, .int (nI L), .ref gs, .ref gk, .ref gv, .ref gz, .int (nI (1 - ci)), .int x7, .int x8, .int x9, .int x10, .int x11])), (gs, .inl (cI, 2048, .inl (q_clr Sx (1024 * (1 - ci)) q))), (gk, .inl (cI, 2048, .inl Kx)), (gv, .inl (cI, 2048, .inl Vx)), (gz, .inl (cI, 2, .inl (upd Zx (1 - ci) (nI q))))] H → va_D Aq [(g0, .inr (2, [.int x0, .int (nI L), .ref gs, .ref gk, .ref gv, .ref gz, .int (nI (1 - ci)), .int x7, .int x8, .int x9, .int x10, .int x11])), (gs, .inl (cI, 2048, .inl (q_clr Sx (1024 * (1 - ci)) q))), (gk, .inl (cI, 2048, .inl Kx)), (gv, .inl (cI, 2048, .inl Vx)), (gz, .inl (cI, 2, .inl (upd Zx (1 - ci) (nI q))))] → va_S Aq H0 H locs → lv_has ls 3 [(0, .ref g0)] → W p l e ({ frames := 1, cells := 0, slots := 0, locals := 22 }) s m args below meth c H locs 0 0 Q (F0 m 48 ls [])) :
    ∀ (f : Nat) (i : Nat), i + f = q → ∀ (H : Heap) (locs : List Loc) (ls : Array Slot), va_P (dC, dI) vwCl [(g0, .inr (2, [.int x0, .int (nI L), .ref gs, .ref gk, .ref gv, .ref gz, .int (nI (1 - ci)), .int x7, .int x8, .int x9, .int x10, .int x11])), (gs, .inl (cI, 2048, .inl (q_clr Sx (1024 * (1 - ci)) i))), (gk, .inl (cI, 2048, .inl Kx)), (gv, .inl (cI, 2048, .inl Vx)), (gz, .inl (cI, 2, .inl (upd Zx (1 - ci) (nI q))))] H → va_D Aq [(g0, .inr (2, [.int x0, .int (nI L), .ref gs, .ref gk, .ref gv, .ref gz, .int (nI (1 - ci)), .int x7, .int x8, .int x9, .int x10, .int x11])), (gs, .inl (cI, 2048, .inl (q_clr Sx (1024 * (1 - ci)) i))), (gk, .inl (cI, 2048, .inl Kx)), (gv, .inl (cI, 2048, .inl Vx)), (gz, .inl (cI, 2, .inl (upd Zx (1 - ci) (nI q))))] → va_S Aq H0 H locs → lv_has ls 3 [(0, .ref g0), (1, .int (nI q)), (2, .int (nI i))] → W p l e ({ frames := 1, cells := 0, slots := 0, locals := 22 }) s m args below meth c H locs 0 0 Q (F0 m 22 ls []) := by
  obtain ⟨hx, hb, hml, hown, hts⟩ := id S0
  intro f
  induction f with
  | zero =>
    intro i hi H locs ls hP hD hS hl
    refine lv_iload_n hx hb dX2_become_22 rfl (lv_at hl 2 rfl) ?_
    refine lv_iload_n hx hb dX2_become_23 rfl (lv_at hl 1 rfl) ?_
    refine lv_icmp_ge (tgt := 48) hx hb dX2_become_24 (by decide) (fun c_24 => ?_) (fun c_24 => ?_)
    · have h_24 := q_le_t (a := q) (b := i) (by omega) (by omega) c_24
      have ei : i = q := by omega
      subst ei
      exact kk H locs ls hP hD hS (lv_sub hl [0] rfl)
    · have h_24 := q_le_f (a := q) (b := i) (by omega) (by omega) c_24
      omega
  | succ f ih =>
    intro i hi H locs ls hP hD hS hl
    refine lv_iload_n hx hb dX2_become_22 rfl (lv_at hl 2 rfl) ?_
    refine lv_iload_n hx hb dX2_become_23 rfl (lv_at hl 1 rfl) ?_
    refine lv_icmp_ge (tgt := 48) hx hb dX2_become_24 (by decide) (fun c_24 => ?_) (fun c_24 => ?_)
    · have h_24 := q_le_t (a := q) (b := i) (by omega) (by omega) c_24
      omega
    · have h_24 := q_le_f (a := q) (b := i) (by omega) (by omega) c_24
      refine lv_aload_n hx hb dX2_become_27 rfl (lv_at hl 0 rfl) ?_
      refine va_get (D := (dC, dI)) (ci := 2) (v := .ref gs) (C := RX2) (T := TX2) (N := 12) hx hb hts hin_X2_become_X2 hown hK hP 0 rfl rfl 2 (by decide) (hts (.fieldLink RX2 7 "StepMapModel" "states" "[I") (by decide +kernel)) (fun _ h9 => h9) rfl dX2_become_28 ?_
      refine lv_aload_n hx hb dX2_become_31 rfl (lv_at hl 0 rfl) ?_
      refine lv_aload_n hx hb dX2_become_32 rfl (lv_at hl 0 rfl) ?_
      refine va_get (D := (dC, dI)) (ci := 2) (v := .int (nI (1 - ci))) (C := RX2) (T := TX2) (N := 12) hx hb hts hin_X2_become_X2 hown hK hP 0 rfl rfl 6 (by decide) (hts (.fieldLink RX2 43 "StepMapModel" "current" "I") (by decide +kernel)) (fun _ h9 => h9) rfl dX2_become_33 ?_
      refine lv_iload_n hx hb dX2_become_36 rfl (lv_at hl 2 rfl) ?_
      refine r_roV (rest := [.ref gs]) S0 (c_X2_at l dC dI cI g0 gs gk gv gz L (q_clr Sx (1024 * (1 - ci)) i) Kx Vx (upd Zx (1 - ci) (nI q)) x0 (nI (1 - ci)) x7 x8 x9 x10 x11 (1 - ci) i) (cwV 2 hts gX2_become_X2_at rfl rfl rfl (by decide +kernel) ⟨Nat.le_of_ble_eq_true rfl, Nat.le_of_ble_eq_true rfl⟩) hK hP [0, 1, 2, 3, 4] rfl (ci := 2) (q0 := 0) rfl rfl rfl rfl hl.1 rfl (Nat.le_of_ble_eq_true rfl) dX2_become_37 ⟨Nat.zero_le _, Nat.zero_le _⟩ ?_
      refine lv_iconst (v := 0) hx hb dX2_become_40 (by decide) ?_
      refine r_st (i := 1024 * (1 - ci) + i) hx hb hK hP hD hS 1 0 rfl rfl (by omega) (by omega) dX2_become_41 (fun H locs hP hD hS => ?_)
      have hP : va_P (dC, dI) vwCl [(g0, .inr (2, [.int x0, .int (nI L), .ref gs, .ref gk, .ref gv, .ref gz, .int (nI (1 - ci)), .int x7, .int x8, .int x9, .int x10, .int x11])), (gs, .inl (cI, 2048, .inl (upd (q_clr Sx (1024 * (1 - ci)) i) (1024 * (1 - ci) + i) 0))), (gk, .inl (cI, 2048, .inl Kx)), (gv, .inl (cI, 2048, .inl Vx)), (gz, .inl (cI, 2, .inl (upd Zx (1 - ci) (nI q))))] H := hP
      have hD : va_D Aq [(g0, .inr (2, [.int x0, .int (nI L), .ref gs, .ref gk, .ref gv, .ref gz, .int (nI (1 - ci)), .int x7, .int x8, .int x9, .int x10, .int x11])), (gs, .inl (cI, 2048, .inl (upd (q_clr Sx (1024 * (1 - ci)) i) (1024 * (1 - ci) + i) 0))), (gk, .inl (cI, 2048, .inl Kx)), (gv, .inl (cI, 2048, .inl Vx)), (gz, .inl (cI, 2, .inl (upd Zx (1 - ci) (nI q))))] := hD
      refine lv_iinc (v := nI (i + 1)) (lv' := [(2, .int (nI (i + 1))), (0, .ref g0), (1, .int (nI q))]) hx hb dX2_become_42 hl (k := 2) rfl (nI_1 _) (by decide) rfl (fun ls hl => ?_)
      refine lv_goto (tgt := 22) hx hb dX2_become_45 (by decide) ?_
      have hP : va_P (dC, dI) vwCl [(g0, .inr (2, [.int x0, .int (nI L), .ref gs, .ref gk, .ref gv, .ref gz, .int (nI (1 - ci)), .int x7, .int x8, .int x9, .int x10, .int x11])), (gs, .inl (cI, 2048, .inl (q_clr Sx (1024 * (1 - ci)) (i + 1)))), (gk, .inl (cI, 2048, .inl Kx)), (gv, .inl (cI, 2048, .inl Vx)), (gz, .inl (cI, 2, .inl (upd Zx (1 - ci) (nI q))))] H := by rw [← q_clr_s]; exact hP
      have hD : va_D Aq [(g0, .inr (2, [.int x0, .int (nI L), .ref gs, .ref gk, .ref gv, .ref gz, .int (nI (1 - ci)), .int x7, .int x8, .int x9, .int x10, .int x11])), (gs, .inl (cI, 2048, .inl (q_clr Sx (1024 * (1 - ci)) (i + 1)))), (gk, .inl (cI, 2048, .inl Kx)), (gv, .inl (cI, 2048, .inl Vx)), (gz, .inl (cI, 2, .inl (upd Zx (1 - ci) (nI q))))] := by rw [← q_clr_s]; exact hD
      exact ih (i + 1) (by omega) H locs ls hP hD hS (lv_sub hl [1, 2, 0] rfl)
set_option maxHeartbeats 4000000 in
set_option maxRecDepth 100000 in
theorem c_X2_become (l : Launch) (dC : Nat → ClassId) (dI : Nat → Nat → Nat) (cI : ClassId) (g0 gs gk gv gz L : Nat) (Sx Kx Vx Zx : Nat → Int32) (x0 x7 x8 x9 x10 x11 : Int32) (ci q : Nat) (sz : Nat) (hci : ci < 2) (hq : q ≤ 1024) : Met l yX2_become wsX2_become ({ frames := 1, cells := 0, slots := 0, locals := 22 }) (r_Mc (dC, dI) vwCl [(cI, .int)] [(g0, .inr (2, [.int x0, .int (nI L), .ref gs, .ref gk, .ref gv, .ref gz, .int (nI ci), .int x7, .int x8, .int x9, .int x10, .int x11])), (gs, .inl (cI, 2048, .inl Sx)), (gk, .inl (cI, 2048, .inl Kx)), (gv, .inl (cI, 2048, .inl Vx)), (gz, .inl (cI, 2, .inl Zx))] sz [.ref g0, .int (nI q)]) (va_Qv (fun (_ : Unit) => True) (fun u t => r_B (dC, dI) vwCl [(cI, .int)] (va_A [(g0, .inr (2, [.int x0, .int (nI L), .ref gs, .ref gk, .ref gv, .ref gz, .int (nI ci), .int x7, .int x8, .int x9, .int x10, .int x11])), (gs, .inl (cI, 2048, .inl Sx)), (gk, .inl (cI, 2048, .inl Kx)), (gv, .inl (cI, 2048, .inl Vx)), (gz, .inl (cI, 2, .inl Zx))] sz) ((fun _ => [(g0, .inr (2, [.int x0, .int (nI L), .ref gs, .ref gk, .ref gv, .ref gz, .int (nI (1 - ci)), .int 1, .int (nI 0), .int x9, .int x10, .int x11])), (gs, .inl (cI, 2048, .inl (q_clr Sx (1024 * (1 - ci)) q))), (gk, .inl (cI, 2048, .inl Kx)), (gv, .inl (cI, 2048, .inl Vx)), (gz, .inl (cI, 2, .inl (upd Zx (1 - ci) (nI q))))]) u) t) (va_A [(g0, .inr (2, [.int x0, .int (nI L), .ref gs, .ref gk, .ref gv, .ref gz, .int (nI ci), .int x7, .int x8, .int x9, .int x10, .int x11])), (gs, .inl (cI, 2048, .inl Sx)), (gk, .inl (cI, 2048, .inl Kx)), (gv, .inl (cI, 2048, .inl Vx)), (gz, .inl (cI, 2, .inl Zx))] sz)) 0 0 (va_A [(g0, .inr (2, [.int x0, .int (nI L), .ref gs, .ref gk, .ref gv, .ref gz, .int (nI ci), .int x7, .int x8, .int x9, .int x10, .int x11])), (gs, .inl (cI, 2048, .inl Sx)), (gk, .inl (cI, 2048, .inl Kx)), (gv, .inl (cI, 2048, .inl Vx)), (gz, .inl (cI, 2, .inl Zx))] sz) := by
  refine Met.ofW (cc := cX2_become) (maxL := 3) (ret := none) (by decide) rfl ?_
  intro p e s m args below meth c s₁ Bd hml hv
  obtain ⟨rfl, hsz, hP, hK, hD0⟩ := hv
  have hx := Bd.exec
  have hb := Bd.bytes
  have hr := Bd.returns
  have hts := atoms_spec (ws := wsX2_become) Bd.pre
  have hown : s.vm.findClass RX2 = some m.cls := findClass_of_methodNamed Bd.named
  have hlocks := Bd.notSynchronized
  have S0 : CallFix p m c cX2_become 3 s _ wsX2_become RX2 := ⟨hx, hb, hml, hown, hts⟩
  subst hsz
  have hD := hD0.self (sz := s.heap.size)
  generalize hAe : va_A [(g0, .inr (2, [.int x0, .int (nI L), .ref gs, .ref gk, .ref gv, .ref gz, .int (nI ci), .int x7, .int x8, .int x9, .int x10, .int x11])), (gs, .inl (cI, 2048, .inl Sx)), (gk, .inl (cI, 2048, .inl Kx)), (gv, .inl (cI, 2048, .inl Vx)), (gz, .inl (cI, 2, .inl Zx))] s.heap.size = Aq at hD ⊢
  have hA : ∀ q : Nat, s.heap.size ≤ q → Aq q := fun q h => by rw [← hAe]; exact Or.inr h
  have hS : va_S Aq s.heap s.heap [] := va_S.rf
  have hD : va_D Aq [(g0, .inr (2, [.int x0, .int (nI L), .ref gs, .ref gk, .ref gv, .ref gz, .int (nI ci), .int x7, .int x8, .int x9, .int x10, .int x11])), (gs, .inl (cI, 2048, .inl Sx)), (gk, .inl (cI, 2048, .inl Kx)), (gv, .inl (cI, 2048, .inl Vx)), (gz, .inl (cI, 2, .inl Zx))] := hD
  have hP : va_P (dC, dI) vwCl [(g0, .inr (2, [.int x0, .int (nI L), .ref gs, .ref gk, .ref gv, .ref gz, .int (nI ci), .int x7, .int x8, .int x9, .int x10, .int x11])), (gs, .inl (cI, 2048, .inl Sx)), (gk, .inl (cI, 2048, .inl Kx)), (gv, .inl (cI, 2048, .inl Vx)), (gz, .inl (cI, 2, .inl Zx))] s.heap := hP
  have hl := lv_entry ([.ref g0, .int (nI q)]) (n := 3) (Nat.le_of_ble_eq_true rfl)
  rw [lg_entry_eq]
  generalize (lg_sl ([.ref g0, .int (nI q)]) ++ List.replicate (3 - (lg_sl ([.ref g0, .int (nI q)])).length) Slot.unset).toArray = ls at hl ⊢
  have hl : lv_has ls 3 [(0, .ref g0), (1, .int (nI q))] := hl
  refine lv_aload_n hx hb dX2_become_0 rfl (lv_at hl 0 rfl) ?_
  refine lv_iconst (v := 1) hx hb dX2_become_1 (by decide) ?_
  refine lv_aload_n hx hb dX2_become_2 rfl (lv_at hl 0 rfl) ?_
  refine va_get (D := (dC, dI)) (ci := 2) (v := .int (nI ci)) (C := RX2) (T := TX2) (N := 12) hx hb hts hin_X2_become_X2 hown hK hP 0 rfl rfl 6 (by decide) (hts (.fieldLink RX2 43 "StepMapModel" "current" "I") (by decide +kernel)) (fun _ h9 => h9) rfl dX2_become_3 ?_
  refine lv_isub hx hb dX2_become_6 ?_
  refine r_eq (z := nI (1 - ci)) (pk_sub (a := 1) (by omega)) ?_
  refine va_put (D := (dC, dI)) (ci := 2) (v := .int (nI (1 - ci))) (ty := .int) (C := RX2) (T := TX2) (N := 12) hx hb hts hin_X2_become_X2 tyX2 tyX2_ok nmX2 hown hK hP hD hS 0 rfl rfl 6 (by decide) (hts (.fieldLink RX2 43 "StepMapModel" "current" "I") (by decide +kernel)) (fun _ h9 => h9) rfl (by decide +kernel) (rfl) (rfl) (Nat.le_of_ble_eq_true rfl) dX2_become_7 (fun H locs hP hD hS => ?_)
  have hP : va_P (dC, dI) vwCl [(g0, .inr (2, [.int x0, .int (nI L), .ref gs, .ref gk, .ref gv, .ref gz, .int (nI (1 - ci)), .int x7, .int x8, .int x9, .int x10, .int x11])), (gs, .inl (cI, 2048, .inl Sx)), (gk, .inl (cI, 2048, .inl Kx)), (gv, .inl (cI, 2048, .inl Vx)), (gz, .inl (cI, 2, .inl Zx))] H := hP
  have hD : va_D Aq [(g0, .inr (2, [.int x0, .int (nI L), .ref gs, .ref gk, .ref gv, .ref gz, .int (nI (1 - ci)), .int x7, .int x8, .int x9, .int x10, .int x11])), (gs, .inl (cI, 2048, .inl Sx)), (gk, .inl (cI, 2048, .inl Kx)), (gv, .inl (cI, 2048, .inl Vx)), (gz, .inl (cI, 2, .inl Zx))] := hD
  refine lv_aload_n hx hb dX2_become_10 rfl (lv_at hl 0 rfl) ?_
  refine va_get (D := (dC, dI)) (ci := 2) (v := .ref gz) (C := RX2) (T := TX2) (N := 12) hx hb hts hin_X2_become_X2 hown hK hP 0 rfl rfl 5 (by decide) (hts (.fieldLink RX2 19 "StepMapModel" "sizes" "[I") (by decide +kernel)) (fun _ h9 => h9) rfl dX2_become_11 ?_
  refine lv_aload_n hx hb dX2_become_14 rfl (lv_at hl 0 rfl) ?_
  refine va_get (D := (dC, dI)) (ci := 2) (v := .int (nI (1 - ci))) (C := RX2) (T := TX2) (N := 12) hx hb hts hin_X2_become_X2 hown hK hP 0 rfl rfl 6 (by decide) (hts (.fieldLink RX2 43 "StepMapModel" "current" "I") (by decide +kernel)) (fun _ h9 => h9) rfl dX2_become_15 ?_
  refine lv_iload_n hx hb dX2_become_18 rfl (lv_at hl 1 rfl) ?_
  refine r_st (i := 1 - ci) hx hb hK hP hD hS 4 0 rfl rfl (by omega) (by omega) dX2_become_19 (fun H locs hP hD hS => ?_)
  have hP : va_P (dC, dI) vwCl [(g0, .inr (2, [.int x0, .int (nI L), .ref gs, .ref gk, .ref gv, .ref gz, .int (nI (1 - ci)), .int x7, .int x8, .int x9, .int x10, .int x11])), (gs, .inl (cI, 2048, .inl Sx)), (gk, .inl (cI, 2048, .inl Kx)), (gv, .inl (cI, 2048, .inl Vx)), (gz, .inl (cI, 2, .inl (upd Zx (1 - ci) (nI q))))] H := hP
  have hD : va_D Aq [(g0, .inr (2, [.int x0, .int (nI L), .ref gs, .ref gk, .ref gv, .ref gz, .int (nI (1 - ci)), .int x7, .int x8, .int x9, .int x10, .int x11])), (gs, .inl (cI, 2048, .inl Sx)), (gk, .inl (cI, 2048, .inl Kx)), (gv, .inl (cI, 2048, .inl Vx)), (gz, .inl (cI, 2, .inl (upd Zx (1 - ci) (nI q))))] := hD
  refine lv_iconst (v := 0) hx hb dX2_become_20 (by decide) ?_
  refine lv_istore_n (lv' := [(2, .int 0), (0, .ref g0), (1, .int (nI q))]) hx hb dX2_become_21 rfl hl (by decide) rfl (fun ls hl => ?_)
  have hP : va_P (dC, dI) vwCl [(g0, .inr (2, [.int x0, .int (nI L), .ref gs, .ref gk, .ref gv, .ref gz, .int (nI (1 - ci)), .int x7, .int x8, .int x9, .int x10, .int x11])), (gs, .inl (cI, 2048, .inl (q_clr Sx (1024 * (1 - ci)) 0))), (gk, .inl (cI, 2048, .inl Kx)), (gv, .inl (cI, 2048, .inl Vx)), (gz, .inl (cI, 2, .inl (upd Zx (1 - ci) (nI q))))] H := by rw [q_clr_0]; exact hP
  have hD : va_D Aq [(g0, .inr (2, [.int x0, .int (nI L), .ref gs, .ref gk, .ref gv, .ref gz, .int (nI (1 - ci)), .int x7, .int x8, .int x9, .int x10, .int x11])), (gs, .inl (cI, 2048, .inl (q_clr Sx (1024 * (1 - ci)) 0))), (gk, .inl (cI, 2048, .inl Kx)), (gv, .inl (cI, 2048, .inl Vx)), (gz, .inl (cI, 2, .inl (upd Zx (1 - ci) (nI q))))] := by rw [q_clr_0]; exact hD
  refine lp_X2_become S0 hK hA g0 gs gk gv gz L Sx Kx Vx Zx x0 x7 x8 x9 x10 x11 ci q hci hq (fun H locs ls hP hD hS hl => ?_) q 0 (by omega) H locs ls hP hD hS (lv_sub hl [1, 2, 0] rfl)
  refine lv_aload_n hx hb dX2_become_48 rfl (lv_at hl 0 rfl) ?_
  refine lv_iconst (v := 0) hx hb dX2_become_49 (by decide) ?_
  refine va_put (D := (dC, dI)) (ci := 2) (v := .int 0) (ty := .int) (C := RX2) (T := TX2) (N := 12) hx hb hts hin_X2_become_X2 tyX2 tyX2_ok nmX2 hown hK hP hD hS 0 rfl rfl 8 (by decide) (hts (.fieldLink RX2 46 "StepMapModel" "cursor" "I") (by decide +kernel)) (fun _ h9 => h9) rfl (by decide +kernel) (rfl) (rfl) (Nat.le_of_ble_eq_true rfl) dX2_become_50 (fun H locs hP hD hS => ?_)
  have hP : va_P (dC, dI) vwCl [(g0, .inr (2, [.int x0, .int (nI L), .ref gs, .ref gk, .ref gv, .ref gz, .int (nI (1 - ci)), .int x7, .int 0, .int x9, .int x10, .int x11])), (gs, .inl (cI, 2048, .inl (q_clr Sx (1024 * (1 - ci)) q))), (gk, .inl (cI, 2048, .inl Kx)), (gv, .inl (cI, 2048, .inl Vx)), (gz, .inl (cI, 2, .inl (upd Zx (1 - ci) (nI q))))] H := hP
  have hD : va_D Aq [(g0, .inr (2, [.int x0, .int (nI L), .ref gs, .ref gk, .ref gv, .ref gz, .int (nI (1 - ci)), .int x7, .int 0, .int x9, .int x10, .int x11])), (gs, .inl (cI, 2048, .inl (q_clr Sx (1024 * (1 - ci)) q))), (gk, .inl (cI, 2048, .inl Kx)), (gv, .inl (cI, 2048, .inl Vx)), (gz, .inl (cI, 2, .inl (upd Zx (1 - ci) (nI q))))] := hD
  refine lv_aload_n hx hb dX2_become_53 rfl (lv_at hl 0 rfl) ?_
  refine lv_iconst (v := 1) hx hb dX2_become_54 (by decide) ?_
  refine va_put (D := (dC, dI)) (ci := 2) (v := .int 1) (ty := .boolean) (C := RX2) (T := TX2) (N := 12) hx hb hts hin_X2_become_X2 tyX2 tyX2_ok nmX2 hown hK hP hD hS 0 rfl rfl 7 (by decide) (hts (.fieldLink RX2 56 "StepMapModel" "moving" "Z") (by decide +kernel)) (fun _ h9 => h9) rfl (by decide +kernel) (rfl) (rfl) (Nat.le_of_ble_eq_true rfl) dX2_become_55 (fun H locs hP hD hS => ?_)
  have hP : va_P (dC, dI) vwCl [(g0, .inr (2, [.int x0, .int (nI L), .ref gs, .ref gk, .ref gv, .ref gz, .int (nI (1 - ci)), .int 1, .int 0, .int x9, .int x10, .int x11])), (gs, .inl (cI, 2048, .inl (q_clr Sx (1024 * (1 - ci)) q))), (gk, .inl (cI, 2048, .inl Kx)), (gv, .inl (cI, 2048, .inl Vx)), (gz, .inl (cI, 2, .inl (upd Zx (1 - ci) (nI q))))] H := hP
  have hD : va_D Aq [(g0, .inr (2, [.int x0, .int (nI L), .ref gs, .ref gk, .ref gv, .ref gz, .int (nI (1 - ci)), .int 1, .int 0, .int x9, .int x10, .int x11])), (gs, .inl (cI, 2048, .inl (q_clr Sx (1024 * (1 - ci)) q))), (gk, .inl (cI, 2048, .inl Kx)), (gv, .inl (cI, 2048, .inl Vx)), (gz, .inl (cI, 2, .inl (upd Zx (1 - ci) (nI q))))] := hD
  have e_0_8 : 0 = nI 0 := nI_0.symm
  have hP : va_P (dC, dI) vwCl [(g0, .inr (2, [.int x0, .int (nI L), .ref gs, .ref gk, .ref gv, .ref gz, .int (nI (1 - ci)), .int 1, .int (nI 0), .int x9, .int x10, .int x11])), (gs, .inl (cI, 2048, .inl (q_clr Sx (1024 * (1 - ci)) q))), (gk, .inl (cI, 2048, .inl Kx)), (gv, .inl (cI, 2048, .inl Vx)), (gz, .inl (cI, 2, .inl (upd Zx (1 - ci) (nI q))))] H := by rw [← e_0_8]; exact hP
  have hD : va_D Aq [(g0, .inr (2, [.int x0, .int (nI L), .ref gs, .ref gk, .ref gv, .ref gz, .int (nI (1 - ci)), .int 1, .int (nI 0), .int x9, .int x10, .int x11])), (gs, .inl (cI, 2048, .inl (q_clr Sx (1024 * (1 - ci)) q))), (gk, .inl (cI, 2048, .inl Kx)), (gv, .inl (cI, 2048, .inl Vx)), (gz, .inl (cI, 2, .inl (upd Zx (1 - ci) (nI q))))] := by rw [← e_0_8]; exact hD
  exact W.vret hx hb hr (fun t ht hW => ⟨⟨(), rfl, trivial, by rw [ht]; exact hP, va_K.moved hW.alike hK, hD⟩, hS.F ht⟩) hS.2.2 dX2_become_58
set_option maxHeartbeats 4000000 in
set_option maxRecDepth 100000 in
theorem lp_X2_free {p : Program} {l : Launch} {e : Env} {s : State} {m : MethodId} {args : Array Value} {below : List Frame} {meth : Method} {c : Code} {Q : State → Prop} {dC : Nat → ClassId} {dI : Nat → Nat → Nat} {cI : ClassId} {Aq : Nat → Prop} {H0 : Heap} (S0 : CallFix p m c cX2_free 5 s args wsX2_free RX2) (hK : va_K (dC, dI) vwCl [(cI, .int)] s) (hA : ∀ q : Nat, H0.size ≤ q → Aq q) (g0 gs gk gv gz L : Nat) (Zx : Nat → Int32) (x0 x7 x8 x9 x11 : Int32) (ci n9 RW : Nat) (RT : q_TB) (S9 K9 V9 : Nat → Int32) (hci : ci < 2) (hz : Zx ci = nI n9) (hn : q_pw n9)
    (kk : ∀ (Sx Kx Vx : Nat → Int32) (fr : Nat) (_ : RT.1 = n9) (_ : fr < RT.1) (_ : RT.2.1 fr = 0) (_ : q_RF Sx Kx Vx S9 K9 V9 ci fr RT) (H : Heap) (locs : List Loc) (ls : Array Slot), va_P (dC, dI) vwCl [(g0, .inr (2, [.int x0, .int (nI L), .ref gs, .ref gk, .ref gv, .ref gz, .int (nI ci), .int x7, .int x8, .int x9, .int (nI RW), .int x11])), (gs, .inl (cI, 2048, .inl Sx)), (gk, .inl (cI, 2048, .inl Kx)), (gv, .inl (cI, 2048, .inl Vx)), (gz, .inl (cI, 2, .inl Zx))] H → va_D Aq [(g0, .inr (2, [.int x0, .int (nI L), .ref gs, .ref gk, .ref gv, .ref gz, .int (nI ci), .int x7, .int x8, .int x9, .int (nI RW), .int x11])), (gs, .inl (cI, 2048, .inl Sx)), (gk, .inl (cI, 2048, .inl Kx)), (gv, .inl (cI, 2048, .inl Vx)), (gz, .inl (cI, 2, .inl Zx))] → va_S Aq H0 H locs → lv_has ls 5 [(0, .ref g0), (2, .int (nI fr))] → W p l e ({ frames := 2, cells := 0, slots := 0, locals := 46 }) s m args below meth c H locs 0 0 Q (F0 m 149 ls [])) :
    ∀ (f : Nat) (fr i w : Nat) (X : q_TB) (Sx Kx Vx : Nat → Int32), X.1 = n9 ∧ (∃ d, d < f ∧ q_FI X fr i d) ∧ q_RF Sx Kx Vx S9 K9 V9 ci fr X ∧ (q_fz f X fr i).1 = RT ∧ w + (q_fz f X fr i).2 = RW → ∀ (H : Heap) (locs : List Loc) (ls : Array Slot), va_P (dC, dI) vwCl [(g0, .inr (2, [.int x0, .int (nI L), .ref gs, .ref gk, .ref gv, .ref gz, .int (nI ci), .int x7, .int x8, .int x9, .int (nI w), .int x11])), (gs, .inl (cI, 2048, .inl Sx)), (gk, .inl (cI, 2048, .inl Kx)), (gv, .inl (cI, 2048, .inl Vx)), (gz, .inl (cI, 2, .inl Zx))] H → va_D Aq [(g0, .inr (2, [.int x0, .int (nI L), .ref gs, .ref gk, .ref gv, .ref gz, .int (nI ci), .int x7, .int x8, .int x9, .int (nI w), .int x11])), (gs, .inl (cI, 2048, .inl Sx)), (gk, .inl (cI, 2048, .inl Kx)), (gv, .inl (cI, 2048, .inl Vx)), (gz, .inl (cI, 2, .inl Zx))] → va_S Aq H0 H locs → lv_has ls 5 [(0, .ref g0), (2, .int (nI fr)), (3, .int (nI i))] → W p l e ({ frames := 2, cells := 0, slots := 0, locals := 46 }) s m args below meth c H locs 0 0 Q (F0 m 22 ls []) := by
  obtain ⟨hx, hb, hml, hown, hts⟩ := id S0
  intro f
  induction f with
  | zero =>
    intro fr i w X Sx Kx Vx hi H locs ls hP hD hS hl
    obtain ⟨h1, ⟨d, hd, hFI⟩, hF, h4, h5⟩ := hi
    have hn8 := q_pw_8 hn
    exact absurd hd (Nat.not_lt_zero d)
  | succ f ih =>
    intro fr i w X Sx Kx Vx hi H locs ls hP hD hS hl
    obtain ⟨h1, ⟨d, hd, hFI⟩, hF, h4, h5⟩ := hi
    have hn8 := q_pw_8 hn
    have hfr : fr < X.1 := hFI.1
    have hix : i < X.1 := hFI.2.1
    have hne : i ≠ fr := fun z => hFI.2.2.1 z.symm
    have hzX : Zx ci = nI X.1 := by rw [h1]; exact hz
    have hnX : q_pw X.1 := by rw [h1]; exact hn
    have hFi := hF.2.1 i hix hne
    refine lv_aload_n hx hb dX2_free_22 rfl (lv_at hl 0 rfl) ?_
    refine va_get (D := (dC, dI)) (ci := 2) (v := .ref gs) (C := RX2) (T := TX2) (N := 12) hx hb hts hin_X2_free_X2 hown hK hP 0 rfl rfl 2 (by decide) (hts (.fieldLink RX2 7 "StepMapModel" "states" "[I") (by decide +kernel)) (fun _ h9 => h9) rfl dX2_free_23 ?_
    refine lv_aload_n hx hb dX2_free_26 rfl (lv_at hl 0 rfl) ?_
    refine lv_aload_n hx hb dX2_free_27 rfl (lv_at hl 0 rfl) ?_
    refine va_get (D := (dC, dI)) (ci := 2) (v := .int (nI ci)) (C := RX2) (T := TX2) (N := 12) hx hb hts hin_X2_free_X2 hown hK hP 0 rfl rfl 6 (by decide) (hts (.fieldLink RX2 43 "StepMapModel" "current" "I") (by decide +kernel)) (fun _ h9 => h9) rfl dX2_free_28 ?_
    refine lv_iload_n hx hb dX2_free_31 rfl (lv_at hl 2 rfl) ?_
    refine r_roV (rest := [.ref gs]) S0 (c_X2_at l dC dI cI g0 gs gk gv gz L Sx Kx Vx Zx x0 (nI ci) x7 x8 x9 (nI w) x11 ci i) (cwV 2 hts gX2_free_X2_at rfl rfl rfl (by decide +kernel) ⟨Nat.le_of_ble_eq_true rfl, Nat.le_of_ble_eq_true rfl⟩) hK hP [0, 1, 2, 3, 4] rfl (ci := 2) (q0 := 0) rfl rfl rfl rfl hl.1 rfl (Nat.le_of_ble_eq_true rfl) dX2_free_32 ⟨Nat.zero_le _, Nat.zero_le _⟩ ?_
    refine r_ld (i := 1024 * ci + i) hx hb hK hP 1 0 rfl rfl (by omega) (by omega) dX2_free_35 ?_
    refine r_eq (z := q_sw (X.2.1 i)) (hFi.1) ?_
    refine lv_if_eq (tgt := 149) hx hb dX2_free_36 (by decide) (fun c_36 => ?_) (fun c_36 => ?_)
    · have m0 := q_sw_0.mp c_36
      rw [q_fz_0 m0] at h4 h5
      have e1 : X = RT := h4
      have e2 : w = RW := h5
      subst e1
      subst e2
      exact kk Sx Kx Vx fr h1 hfr hFI.2.2.2.1 hF H locs ls hP hD hS (lv_sub hl [0, 1] rfl)
    · have n0 : ¬ X.2.1 i = 0 := fun z => c_36 (q_sw_0.mpr z)
      have m2 : X.2.1 i = 2 := (hFI.2.2.2.2.1 i hix).elim (fun z => absurd z n0) id
      have hdp := q_FI_d hFI n0
      obtain ⟨d2, rfl⟩ : ∃ d2, d = d2 + 1 := ⟨d - 1, by omega⟩
      have hh := q_hm_lt (X.2.2.1 i) (show 0 < X.1 by omega)
      refine lv_aload_n hx hb dX2_free_39 rfl (lv_at hl 0 rfl) ?_
      refine lv_aload_n hx hb dX2_free_40 rfl (lv_at hl 0 rfl) ?_
      refine lv_aload_n hx hb dX2_free_41 rfl (lv_at hl 0 rfl) ?_
      refine va_get (D := (dC, dI)) (ci := 2) (v := .ref gk) (C := RX2) (T := TX2) (N := 12) hx hb hts hin_X2_free_X2 hown hK hP 0 rfl rfl 3 (by decide) (hts (.fieldLink RX2 13 "StepMapModel" "keys" "[I") (by decide +kernel)) (fun _ h9 => h9) rfl dX2_free_42 ?_
      refine lv_aload_n hx hb dX2_free_45 rfl (lv_at hl 0 rfl) ?_
      refine lv_aload_n hx hb dX2_free_46 rfl (lv_at hl 0 rfl) ?_
      refine va_get (D := (dC, dI)) (ci := 2) (v := .int (nI ci)) (C := RX2) (T := TX2) (N := 12) hx hb hts hin_X2_free_X2 hown hK hP 0 rfl rfl 6 (by decide) (hts (.fieldLink RX2 43 "StepMapModel" "current" "I") (by decide +kernel)) (fun _ h9 => h9) rfl dX2_free_47 ?_
      refine lv_iload_n hx hb dX2_free_50 rfl (lv_at hl 2 rfl) ?_
      refine r_roV (rest := [.ref gk, .ref g0, .ref g0]) S0 (c_X2_at l dC dI cI g0 gs gk gv gz L Sx Kx Vx Zx x0 (nI ci) x7 x8 x9 (nI w) x11 ci i) (cwV 2 hts gX2_free_X2_at rfl rfl rfl (by decide +kernel) ⟨Nat.le_of_ble_eq_true rfl, Nat.le_of_ble_eq_true rfl⟩) hK hP [0, 1, 2, 3, 4] rfl (ci := 2) (q0 := 0) rfl rfl rfl rfl hl.1 rfl (Nat.le_of_ble_eq_true rfl) dX2_free_51 ⟨Nat.zero_le _, Nat.zero_le _⟩ ?_
      refine r_ld (i := 1024 * ci + i) hx hb hK hP 2 0 rfl rfl (by omega) (by omega) dX2_free_54 ?_
      refine r_eq (z := X.2.2.1 i) ((hFi.2 m2).1) ?_
      refine lv_aload_n hx hb dX2_free_55 rfl (lv_at hl 0 rfl) ?_
      refine va_get (D := (dC, dI)) (ci := 2) (v := .int (nI ci)) (C := RX2) (T := TX2) (N := 12) hx hb hts hin_X2_free_X2 hown hK hP 0 rfl rfl 6 (by decide) (hts (.fieldLink RX2 43 "StepMapModel" "current" "I") (by decide +kernel)) (fun _ h9 => h9) rfl dX2_free_56 ?_
      refine r_roV (rest := [.ref g0]) S0 (c_X2_home l dC dI cI g0 gs gk gv gz L Sx Kx Vx Zx x0 (nI ci) x7 x8 x9 (nI w) x11 (X.2.2.1 i) ci X.1 (by omega) hzX hnX) (cwV 2 hts gX2_free_X2_home rfl rfl rfl (by decide +kernel) ⟨Nat.le_of_ble_eq_true rfl, Nat.le_of_ble_eq_true rfl⟩) hK hP [0, 1, 2, 3, 4] rfl (ci := 2) (q0 := 0) rfl rfl rfl rfl hl.1 rfl (Nat.le_of_ble_eq_true rfl) dX2_free_59 ⟨Nat.zero_le _, Nat.zero_le _⟩ ?_
      refine lv_iload_n hx hb dX2_free_62 rfl (lv_at hl 2 rfl) ?_
      refine r_roV (rest := []) S0 (c_X2_steps l dC dI cI g0 gs gk gv gz L Sx Kx Vx Zx x0 x7 x8 x9 (nI w) x11 ci X.1 (q_hm X.1 (X.2.2.1 i)) i (by omega) hzX hnX (by omega) (by omega)) (cwV 2 hts gX2_free_X2_steps rfl rfl rfl (by decide +kernel) ⟨Nat.le_of_ble_eq_true rfl, Nat.le_of_ble_eq_true rfl⟩) hK hP [0, 1, 2, 3, 4] rfl (ci := 2) (q0 := 0) rfl rfl rfl rfl hl.1 rfl (Nat.le_of_ble_eq_true rfl) dX2_free_63 ⟨Nat.zero_le _, Nat.zero_le _⟩ ?_
      refine lv_aload_n hx hb dX2_free_66 rfl (lv_at hl 0 rfl) ?_
      refine lv_iload_n hx hb dX2_free_67 rfl (lv_at hl 1 rfl) ?_
      refine lv_iload_n hx hb dX2_free_68 rfl (lv_at hl 2 rfl) ?_
      refine r_roV (rest := [.int (nI (q_rd X.1 (q_hm X.1 (X.2.2.1 i)) i))]) S0 (c_X2_steps l dC dI cI g0 gs gk gv gz L Sx Kx Vx Zx x0 x7 x8 x9 (nI w) x11 ci X.1 fr i (by omega) hzX hnX (by omega) (by omega)) (cwV 2 hts gX2_free_X2_steps rfl rfl rfl (by decide +kernel) ⟨Nat.le_of_ble_eq_true rfl, Nat.le_of_ble_eq_true rfl⟩) hK hP [0, 1, 2, 3, 4] rfl (ci := 2) (q0 := 0) rfl rfl rfl rfl hl.1 rfl (Nat.le_of_ble_eq_true rfl) dX2_free_69 ⟨Nat.zero_le _, Nat.zero_le _⟩ ?_
      have hr1 := q_rd_lt hh hix
      have hr2 := q_rd_lt hfr hix
      refine lv_icmp_ge (tgt := 79) hx hb dX2_free_72 (by decide) (fun c_72 => ?_) (fun c_72 => ?_)
      · have h_72 := q_le_t (a := q_rd X.1 fr i) (b := q_rd X.1 (q_hm X.1 (X.2.2.1 i)) i) (by omega) (by omega) c_72
        refine lv_iconst (v := 0) hx hb dX2_free_79 (by decide) ?_
        refine lv_istore (lv' := [(4, .int 0), (0, .ref g0), (2, .int (nI fr)), (3, .int (nI i))]) hx hb dX2_free_80 hl (by decide) rfl (fun ls hl => ?_)
        refine lv_iload hx hb dX2_free_82 (lv_at hl 0 rfl) ?_
        refine lv_if_ne (tgt := 126) hx hb dX2_free_84 (by decide) (fun c_84 => ?_) (fun c_84 => ?_)
        · have h_84 := q_eq_f (a := 0) (b := 0) (by omega) (by omega) c_84
          omega
        · have h_84 := q_eq_t (a := 0) (b := 0) (by omega) (by omega) c_84
          refine lv_aload_n hx hb dX2_free_87 rfl (lv_at hl 1 rfl) ?_
          refine lv_aload_n hx hb dX2_free_88 rfl (lv_at hl 1 rfl) ?_
          refine va_get (D := (dC, dI)) (ci := 2) (v := .int (nI ci)) (C := RX2) (T := TX2) (N := 12) hx hb hts hin_X2_free_X2 hown hK hP 0 rfl rfl 6 (by decide) (hts (.fieldLink RX2 43 "StepMapModel" "current" "I") (by decide +kernel)) (fun _ h9 => h9) rfl dX2_free_89 ?_
          refine lv_iload_n hx hb dX2_free_92 rfl (lv_at hl 2 rfl) ?_
          refine lv_aload_n hx hb dX2_free_93 rfl (lv_at hl 1 rfl) ?_
          refine va_get (D := (dC, dI)) (ci := 2) (v := .ref gk) (C := RX2) (T := TX2) (N := 12) hx hb hts hin_X2_free_X2 hown hK hP 0 rfl rfl 3 (by decide) (hts (.fieldLink RX2 13 "StepMapModel" "keys" "[I") (by decide +kernel)) (fun _ h9 => h9) rfl dX2_free_94 ?_
          refine lv_aload_n hx hb dX2_free_97 rfl (lv_at hl 1 rfl) ?_
          refine lv_aload_n hx hb dX2_free_98 rfl (lv_at hl 1 rfl) ?_
          refine va_get (D := (dC, dI)) (ci := 2) (v := .int (nI ci)) (C := RX2) (T := TX2) (N := 12) hx hb hts hin_X2_free_X2 hown hK hP 0 rfl rfl 6 (by decide) (hts (.fieldLink RX2 43 "StepMapModel" "current" "I") (by decide +kernel)) (fun _ h9 => h9) rfl dX2_free_99 ?_
          refine lv_iload_n hx hb dX2_free_102 rfl (lv_at hl 3 rfl) ?_
          refine r_roV (rest := [.ref gk, .int (nI fr), .int (nI ci), .ref g0]) S0 (c_X2_at l dC dI cI g0 gs gk gv gz L Sx Kx Vx Zx x0 (nI ci) x7 x8 x9 (nI w) x11 ci i) (cwV 2 hts gX2_free_X2_at rfl rfl rfl (by decide +kernel) ⟨Nat.le_of_ble_eq_true rfl, Nat.le_of_ble_eq_true rfl⟩) hK hP [0, 1, 2, 3, 4] rfl (ci := 2) (q0 := 0) rfl rfl rfl rfl hl.1 rfl (Nat.le_of_ble_eq_true rfl) dX2_free_103 ⟨Nat.zero_le _, Nat.zero_le _⟩ ?_
          refine r_ld (i := 1024 * ci + i) hx hb hK hP 2 0 rfl rfl (by omega) (by omega) dX2_free_106 ?_
          refine r_eq (z := X.2.2.1 i) ((hFi.2 m2).1) ?_
          refine lv_aload_n hx hb dX2_free_107 rfl (lv_at hl 1 rfl) ?_
          refine va_get (D := (dC, dI)) (ci := 2) (v := .ref gv) (C := RX2) (T := TX2) (N := 12) hx hb hts hin_X2_free_X2 hown hK hP 0 rfl rfl 4 (by decide) (hts (.fieldLink RX2 16 "StepMapModel" "values" "[I") (by decide +kernel)) (fun _ h9 => h9) rfl dX2_free_108 ?_
          refine lv_aload_n hx hb dX2_free_111 rfl (lv_at hl 1 rfl) ?_
          refine lv_aload_n hx hb dX2_free_112 rfl (lv_at hl 1 rfl) ?_
          refine va_get (D := (dC, dI)) (ci := 2) (v := .int (nI ci)) (C := RX2) (T := TX2) (N := 12) hx hb hts hin_X2_free_X2 hown hK hP 0 rfl rfl 6 (by decide) (hts (.fieldLink RX2 43 "StepMapModel" "current" "I") (by decide +kernel)) (fun _ h9 => h9) rfl dX2_free_113 ?_
          refine lv_iload_n hx hb dX2_free_116 rfl (lv_at hl 3 rfl) ?_
          refine r_roV (rest := [.ref gv, .int (X.2.2.1 i), .int (nI fr), .int (nI ci), .ref g0]) S0 (c_X2_at l dC dI cI g0 gs gk gv gz L Sx Kx Vx Zx x0 (nI ci) x7 x8 x9 (nI w) x11 ci i) (cwV 2 hts gX2_free_X2_at rfl rfl rfl (by decide +kernel) ⟨Nat.le_of_ble_eq_true rfl, Nat.le_of_ble_eq_true rfl⟩) hK hP [0, 1, 2, 3, 4] rfl (ci := 2) (q0 := 0) rfl rfl rfl rfl hl.1 rfl (Nat.le_of_ble_eq_true rfl) dX2_free_117 ⟨Nat.zero_le _, Nat.zero_le _⟩ ?_
          refine r_ld (i := 1024 * ci + i) hx hb hK hP 3 0 rfl rfl (by omega) (by omega) dX2_free_120 ?_
          refine r_eq (z := X.2.2.2 i) ((hFi.2 m2).2) ?_
          refine r_muV (wr := []) (rest := []) S0 (c_X2_lay l dC dI cI g0 gs gk gv gz L Sx Kx Vx Zx x0 (nI ci) x7 x8 x9 (nI w) x11 ci fr (X.2.2.1 i) (X.2.2.2 i) H.size (by omega)) (cwV 4 hts gX2_free_X2_lay rfl rfl rfl (by decide +kernel) ⟨Nat.le_of_ble_eq_true rfl, Nat.le_of_ble_eq_true rfl⟩) hK hP hD hS hA [0, 1, 2, 3, 4] [] rfl rfl (by decide) (by decide) (by decide) (ci := 2) (q0 := 0) rfl rfl rfl rfl hl.1 rfl (Nat.le_of_ble_eq_true rfl) dX2_free_121 ⟨Nat.zero_le _, Nat.zero_le _⟩ (fun _ H locs hu hP hD hS => ?_)
          have hP : va_P (dC, dI) vwCl [(g0, .inr (2, [.int x0, .int (nI L), .ref gs, .ref gk, .ref gv, .ref gz, .int (nI ci), .int x7, .int x8, .int x9, .int (nI w), .int x11])), (gs, .inl (cI, 2048, .inl (upd Sx (1024 * ci + fr) 1))), (gk, .inl (cI, 2048, .inl (upd Kx (1024 * ci + fr) (X.2.2.1 i)))), (gv, .inl (cI, 2048, .inl (upd Vx (1024 * ci + fr) (X.2.2.2 i)))), (gz, .inl (cI, 2, .inl Zx))] H := hP.sub [0, 1, 2, 3, 4] rfl
          have hD : va_D Aq [(g0, .inr (2, [.int x0, .int (nI L), .ref gs, .ref gk, .ref gv, .ref gz, .int (nI ci), .int x7, .int x8, .int x9, .int (nI w), .int x11])), (gs, .inl (cI, 2048, .inl (upd Sx (1024 * ci + fr) 1))), (gk, .inl (cI, 2048, .inl (upd Kx (1024 * ci + fr) (X.2.2.1 i)))), (gv, .inl (cI, 2048, .inl (upd Vx (1024 * ci + fr) (X.2.2.2 i)))), (gz, .inl (cI, 2, .inl Zx))] := hD.sub [0, 1, 2, 3, 4] (by decide) rfl
          refine lv_iload_n hx hb dX2_free_124 rfl (lv_at hl 3 rfl) ?_
          refine lv_istore_n (lv' := [(2, .int (nI i)), (4, .int 0), (0, .ref g0), (3, .int (nI i))]) hx hb dX2_free_125 rfl hl (by decide) rfl (fun ls hl => ?_)
          refine lv_aload_n hx hb dX2_free_126 rfl (lv_at hl 2 rfl) ?_
          refine lv_iload_n hx hb dX2_free_127 rfl (lv_at hl 3 rfl) ?_
          refine lv_aload_n hx hb dX2_free_128 rfl (lv_at hl 2 rfl) ?_
          refine va_get (D := (dC, dI)) (ci := 2) (v := .int (nI ci)) (C := RX2) (T := TX2) (N := 12) hx hb hts hin_X2_free_X2 hown hK hP 0 rfl rfl 6 (by decide) (hts (.fieldLink RX2 43 "StepMapModel" "current" "I") (by decide +kernel)) (fun _ h9 => h9) rfl dX2_free_129 ?_
          refine r_roV (rest := []) S0 (c_X2_behind l dC dI cI g0 gs gk gv gz L (upd Sx (1024 * ci + fr) 1) (upd Kx (1024 * ci + fr) (X.2.2.1 i)) (upd Vx (1024 * ci + fr) (X.2.2.2 i)) Zx x0 (nI ci) x7 x8 x9 (nI w) x11 i ci X.1 (by omega) hzX hnX (by omega)) (cwV 2 hts gX2_free_X2_behind rfl rfl rfl (by decide +kernel) ⟨Nat.le_of_ble_eq_true rfl, Nat.le_of_ble_eq_true rfl⟩) hK hP [0, 1, 2, 3, 4] rfl (ci := 2) (q0 := 0) rfl rfl rfl rfl hl.1 rfl (Nat.le_of_ble_eq_true rfl) dX2_free_132 ⟨Nat.zero_le _, Nat.zero_le _⟩ ?_
          refine lv_istore_n (lv' := [(3, .int (nI (q_ad X.1 i 1))), (2, .int (nI i)), (4, .int 0), (0, .ref g0)]) hx hb dX2_free_135 rfl hl (by decide) rfl (fun ls hl => ?_)
          refine lv_aload_n hx hb dX2_free_136 rfl (lv_at hl 3 rfl) ?_
          refine lv_dup hx hb dX2_free_137 rfl ?_
          refine va_get (D := (dC, dI)) (ci := 2) (v := .int (nI w)) (C := RX2) (T := TX2) (N := 12) hx hb hts hin_X2_free_X2 hown hK hP 0 rfl rfl 10 (by decide) (hts (.fieldLink RX2 34 "StepMapModel" "visits" "I") (by decide +kernel)) (fun _ h9 => h9) rfl dX2_free_138 ?_
          refine lv_iconst (v := 1) hx hb dX2_free_141 (by decide) ?_
          refine lv_iadd hx hb dX2_free_142 ?_
          refine r_eq (z := nI (w + 1)) (nI_add w 1) ?_
          refine va_put (D := (dC, dI)) (ci := 2) (v := .int (nI (w + 1))) (ty := .int) (C := RX2) (T := TX2) (N := 12) hx hb hts hin_X2_free_X2 tyX2 tyX2_ok nmX2 hown hK hP hD hS 0 rfl rfl 10 (by decide) (hts (.fieldLink RX2 34 "StepMapModel" "visits" "I") (by decide +kernel)) (fun _ h9 => h9) rfl (by decide +kernel) (rfl) (rfl) (Nat.le_of_ble_eq_true rfl) dX2_free_143 (fun H locs hP hD hS => ?_)
          have hP : va_P (dC, dI) vwCl [(g0, .inr (2, [.int x0, .int (nI L), .ref gs, .ref gk, .ref gv, .ref gz, .int (nI ci), .int x7, .int x8, .int x9, .int (nI (w + 1)), .int x11])), (gs, .inl (cI, 2048, .inl (upd Sx (1024 * ci + fr) 1))), (gk, .inl (cI, 2048, .inl (upd Kx (1024 * ci + fr) (X.2.2.1 i)))), (gv, .inl (cI, 2048, .inl (upd Vx (1024 * ci + fr) (X.2.2.2 i)))), (gz, .inl (cI, 2, .inl Zx))] H := hP
          have hD : va_D Aq [(g0, .inr (2, [.int x0, .int (nI L), .ref gs, .ref gk, .ref gv, .ref gz, .int (nI ci), .int x7, .int x8, .int x9, .int (nI (w + 1)), .int x11])), (gs, .inl (cI, 2048, .inl (upd Sx (1024 * ci + fr) 1))), (gk, .inl (cI, 2048, .inl (upd Kx (1024 * ci + fr) (X.2.2.1 i)))), (gv, .inl (cI, 2048, .inl (upd Vx (1024 * ci + fr) (X.2.2.2 i)))), (gz, .inl (cI, 2, .inl Zx))] := hD
          refine lv_goto (tgt := 22) hx hb dX2_free_146 (by decide) ?_
          have h4 : (q_fz f (q_sh X i fr) i (q_ad X.1 i 1)).1 = RT := by rw [q_fz_1 n0 h_72] at h4; exact h4
          have h5 : w + ((q_fz f (q_sh X i fr) i (q_ad X.1 i 1)).2 + 1) = RW := by rw [q_fz_1 n0 h_72] at h5; exact h5
          exact ih i (q_ad X.1 i 1) (w + 1) (q_sh X i fr) (upd Sx (1024 * ci + fr) 1) (upd Kx (1024 * ci + fr) (X.2.2.1 i)) (upd Vx (1024 * ci + fr) (X.2.2.2 i)) ⟨h1, ⟨d2, by omega, q_FI_1 hFI n0 h_72⟩, q_RF_1 hF hix hfr hne m2, h4, by omega⟩ H locs ls hP hD hS (lv_sub hl [3, 1, 0] rfl)
      · have h_72 := q_le_f (a := q_rd X.1 fr i) (b := q_rd X.1 (q_hm X.1 (X.2.2.1 i)) i) (by omega) (by omega) c_72
        refine lv_iconst (v := 1) hx hb dX2_free_75 (by decide) ?_
        refine lv_goto (tgt := 80) hx hb dX2_free_76 (by decide) ?_
        refine lv_istore (lv' := [(4, .int 1), (0, .ref g0), (2, .int (nI fr)), (3, .int (nI i))]) hx hb dX2_free_80 hl (by decide) rfl (fun ls hl => ?_)
        refine lv_iload hx hb dX2_free_82 (lv_at hl 0 rfl) ?_
        refine lv_if_ne (tgt := 126) hx hb dX2_free_84 (by decide) (fun c_84 => ?_) (fun c_84 => ?_)
        · have h_84 := q_eq_f (a := 1) (b := 0) (by omega) (by omega) c_84
          refine lv_aload_n hx hb dX2_free_126 rfl (lv_at hl 1 rfl) ?_
          refine lv_iload_n hx hb dX2_free_127 rfl (lv_at hl 3 rfl) ?_
          refine lv_aload_n hx hb dX2_free_128 rfl (lv_at hl 1 rfl) ?_
          refine va_get (D := (dC, dI)) (ci := 2) (v := .int (nI ci)) (C := RX2) (T := TX2) (N := 12) hx hb hts hin_X2_free_X2 hown hK hP 0 rfl rfl 6 (by decide) (hts (.fieldLink RX2 43 "StepMapModel" "current" "I") (by decide +kernel)) (fun _ h9 => h9) rfl dX2_free_129 ?_
          refine r_roV (rest := []) S0 (c_X2_behind l dC dI cI g0 gs gk gv gz L Sx Kx Vx Zx x0 (nI ci) x7 x8 x9 (nI w) x11 i ci X.1 (by omega) hzX hnX (by omega)) (cwV 2 hts gX2_free_X2_behind rfl rfl rfl (by decide +kernel) ⟨Nat.le_of_ble_eq_true rfl, Nat.le_of_ble_eq_true rfl⟩) hK hP [0, 1, 2, 3, 4] rfl (ci := 2) (q0 := 0) rfl rfl rfl rfl hl.1 rfl (Nat.le_of_ble_eq_true rfl) dX2_free_132 ⟨Nat.zero_le _, Nat.zero_le _⟩ ?_
          refine lv_istore_n (lv' := [(3, .int (nI (q_ad X.1 i 1))), (4, .int 1), (0, .ref g0), (2, .int (nI fr))]) hx hb dX2_free_135 rfl hl (by decide) rfl (fun ls hl => ?_)
          refine lv_aload_n hx hb dX2_free_136 rfl (lv_at hl 2 rfl) ?_
          refine lv_dup hx hb dX2_free_137 rfl ?_
          refine va_get (D := (dC, dI)) (ci := 2) (v := .int (nI w)) (C := RX2) (T := TX2) (N := 12) hx hb hts hin_X2_free_X2 hown hK hP 0 rfl rfl 10 (by decide) (hts (.fieldLink RX2 34 "StepMapModel" "visits" "I") (by decide +kernel)) (fun _ h9 => h9) rfl dX2_free_138 ?_
          refine lv_iconst (v := 1) hx hb dX2_free_141 (by decide) ?_
          refine lv_iadd hx hb dX2_free_142 ?_
          refine r_eq (z := nI (w + 1)) (nI_add w 1) ?_
          refine va_put (D := (dC, dI)) (ci := 2) (v := .int (nI (w + 1))) (ty := .int) (C := RX2) (T := TX2) (N := 12) hx hb hts hin_X2_free_X2 tyX2 tyX2_ok nmX2 hown hK hP hD hS 0 rfl rfl 10 (by decide) (hts (.fieldLink RX2 34 "StepMapModel" "visits" "I") (by decide +kernel)) (fun _ h9 => h9) rfl (by decide +kernel) (rfl) (rfl) (Nat.le_of_ble_eq_true rfl) dX2_free_143 (fun H locs hP hD hS => ?_)
          have hP : va_P (dC, dI) vwCl [(g0, .inr (2, [.int x0, .int (nI L), .ref gs, .ref gk, .ref gv, .ref gz, .int (nI ci), .int x7, .int x8, .int x9, .int (nI (w + 1)), .int x11])), (gs, .inl (cI, 2048, .inl Sx)), (gk, .inl (cI, 2048, .inl Kx)), (gv, .inl (cI, 2048, .inl Vx)), (gz, .inl (cI, 2, .inl Zx))] H := hP
          have hD : va_D Aq [(g0, .inr (2, [.int x0, .int (nI L), .ref gs, .ref gk, .ref gv, .ref gz, .int (nI ci), .int x7, .int x8, .int x9, .int (nI (w + 1)), .int x11])), (gs, .inl (cI, 2048, .inl Sx)), (gk, .inl (cI, 2048, .inl Kx)), (gv, .inl (cI, 2048, .inl Vx)), (gz, .inl (cI, 2, .inl Zx))] := hD
          refine lv_goto (tgt := 22) hx hb dX2_free_146 (by decide) ?_
          have nb : ¬ q_rb X i fr := fun z => by have z : q_rd X.1 fr i ≤ q_rd X.1 (q_hm X.1 (X.2.2.1 i)) i := z; omega
          have h4 : (q_fz f X fr (q_ad X.1 i 1)).1 = RT := by rw [q_fz_2 n0 nb] at h4; exact h4
          have h5 : w + ((q_fz f X fr (q_ad X.1 i 1)).2 + 1) = RW := by rw [q_fz_2 n0 nb] at h5; exact h5
          exact ih fr (q_ad X.1 i 1) (w + 1) X Sx Kx Vx ⟨h1, ⟨d2, by omega, q_FI_2 hFI n0 nb⟩, hF, h4, by omega⟩ H locs ls hP hD hS (lv_sub hl [2, 3, 0] rfl)
        · have h_84 := q_eq_t (a := 1) (b := 0) (by omega) (by omega) c_84
          omega
set_option maxHeartbeats 4000000 in
set_option maxRecDepth 100000 in
theorem c_X2_free (l : Launch) (dC : Nat → ClassId) (dI : Nat → Nat → Nat) (cI : ClassId) (g0 gs gk gv gz L : Nat) (Sx Kx Vx Zx : Nat → Int32) (x0 x7 x8 x9 x11 : Int32) (ci vi e9 : Nat) (A : q_TB) (sz : Nat) (hci : ci < 2) (hz : Zx ci = nI A.1) (hpA : q_pw A.1) (hRT : q_RT Sx Kx Vx ci A) (hN : q_NT A) (hP9 : q_PB A) (hU : q_UQ A) (hE : q_EM A) (he : e9 < A.1) (h2 : A.2.1 e9 = 2) : Met l yX2_free wsX2_free ({ frames := 2, cells := 0, slots := 0, locals := 46 }) (r_Mc (dC, dI) vwCl [(cI, .int)] [(g0, .inr (2, [.int x0, .int (nI L), .ref gs, .ref gk, .ref gv, .ref gz, .int (nI ci), .int x7, .int x8, .int x9, .int (nI vi), .int x11])), (gs, .inl (cI, 2048, .inl Sx)), (gk, .inl (cI, 2048, .inl Kx)), (gv, .inl (cI, 2048, .inl Vx)), (gz, .inl (cI, 2, .inl Zx))] sz [.ref g0, .int (nI e9)]) (va_Qv (fun (u : q_A3) => q_RT u.1 u.2.1 u.2.2 ci (q_fr A e9).1 ∧ ∀ p, ¬ (1024 * ci ≤ p ∧ p < 1024 * ci + A.1) → u.1 p = Sx p ∧ u.2.1 p = Kx p ∧ u.2.2 p = Vx p) (fun u t => r_B (dC, dI) vwCl [(cI, .int)] (va_A [(g0, .inr (2, [.int x0, .int (nI L), .ref gs, .ref gk, .ref gv, .ref gz, .int (nI ci), .int x7, .int x8, .int x9, .int (nI vi), .int x11])), (gs, .inl (cI, 2048, .inl Sx)), (gk, .inl (cI, 2048, .inl Kx)), (gv, .inl (cI, 2048, .inl Vx)), (gz, .inl (cI, 2, .inl Zx))] sz) ((fun u => [(g0, .inr (2, [.int x0, .int (nI L), .ref gs, .ref gk, .ref gv, .ref gz, .int (nI ci), .int x7, .int x8, .int x9, .int (nI (vi + ((q_fr A e9).2 + 1))), .int x11])), (gs, .inl (cI, 2048, .inl u.1)), (gk, .inl (cI, 2048, .inl u.2.1)), (gv, .inl (cI, 2048, .inl u.2.2)), (gz, .inl (cI, 2, .inl Zx))]) u) t) (va_A [(g0, .inr (2, [.int x0, .int (nI L), .ref gs, .ref gk, .ref gv, .ref gz, .int (nI ci), .int x7, .int x8, .int x9, .int (nI vi), .int x11])), (gs, .inl (cI, 2048, .inl Sx)), (gk, .inl (cI, 2048, .inl Kx)), (gv, .inl (cI, 2048, .inl Vx)), (gz, .inl (cI, 2, .inl Zx))] sz)) 0 0 (va_A [(g0, .inr (2, [.int x0, .int (nI L), .ref gs, .ref gk, .ref gv, .ref gz, .int (nI ci), .int x7, .int x8, .int x9, .int (nI vi), .int x11])), (gs, .inl (cI, 2048, .inl Sx)), (gk, .inl (cI, 2048, .inl Kx)), (gv, .inl (cI, 2048, .inl Vx)), (gz, .inl (cI, 2, .inl Zx))] sz) := by
  refine Met.ofW (cc := cX2_free) (maxL := 5) (ret := none) (by decide) rfl ?_
  intro p e s m args below meth c s₁ Bd hml hv
  obtain ⟨rfl, hsz, hP, hK, hD0⟩ := hv
  have hx := Bd.exec
  have hb := Bd.bytes
  have hr := Bd.returns
  have hts := atoms_spec (ws := wsX2_free) Bd.pre
  have hown : s.vm.findClass RX2 = some m.cls := findClass_of_methodNamed Bd.named
  have hlocks := Bd.notSynchronized
  have S0 : CallFix p m c cX2_free 5 s _ wsX2_free RX2 := ⟨hx, hb, hml, hown, hts⟩
  subst hsz
  have hD := hD0.self (sz := s.heap.size)
  generalize hAe : va_A [(g0, .inr (2, [.int x0, .int (nI L), .ref gs, .ref gk, .ref gv, .ref gz, .int (nI ci), .int x7, .int x8, .int x9, .int (nI vi), .int x11])), (gs, .inl (cI, 2048, .inl Sx)), (gk, .inl (cI, 2048, .inl Kx)), (gv, .inl (cI, 2048, .inl Vx)), (gz, .inl (cI, 2, .inl Zx))] s.heap.size = Aq at hD ⊢
  have hA : ∀ q : Nat, s.heap.size ≤ q → Aq q := fun q h => by rw [← hAe]; exact Or.inr h
  have hS : va_S Aq s.heap s.heap [] := va_S.rf
  have hD : va_D Aq [(g0, .inr (2, [.int x0, .int (nI L), .ref gs, .ref gk, .ref gv, .ref gz, .int (nI ci), .int x7, .int x8, .int x9, .int (nI vi), .int x11])), (gs, .inl (cI, 2048, .inl Sx)), (gk, .inl (cI, 2048, .inl Kx)), (gv, .inl (cI, 2048, .inl Vx)), (gz, .inl (cI, 2, .inl Zx))] := hD
  have hP : va_P (dC, dI) vwCl [(g0, .inr (2, [.int x0, .int (nI L), .ref gs, .ref gk, .ref gv, .ref gz, .int (nI ci), .int x7, .int x8, .int x9, .int (nI vi), .int x11])), (gs, .inl (cI, 2048, .inl Sx)), (gk, .inl (cI, 2048, .inl Kx)), (gv, .inl (cI, 2048, .inl Vx)), (gz, .inl (cI, 2, .inl Zx))] s.heap := hP
  have hl := lv_entry ([.ref g0, .int (nI e9)]) (n := 5) (Nat.le_of_ble_eq_true rfl)
  rw [lg_entry_eq]
  generalize (lg_sl ([.ref g0, .int (nI e9)]) ++ List.replicate (5 - (lg_sl ([.ref g0, .int (nI e9)])).length) Slot.unset).toArray = ls at hl ⊢
  have hl : lv_has ls 5 [(0, .ref g0), (1, .int (nI e9))] := hl
  have hn8 := q_pw_8 hpA
  refine lv_iload_n hx hb dX2_free_0 rfl (lv_at hl 1 rfl) ?_
  refine lv_istore_n (lv' := [(2, .int (nI e9)), (0, .ref g0), (1, .int (nI e9))]) hx hb dX2_free_1 rfl hl (by decide) rfl (fun ls hl => ?_)
  refine lv_aload_n hx hb dX2_free_2 rfl (lv_at hl 1 rfl) ?_
  refine lv_iload_n hx hb dX2_free_3 rfl (lv_at hl 2 rfl) ?_
  refine lv_aload_n hx hb dX2_free_4 rfl (lv_at hl 1 rfl) ?_
  refine va_get (D := (dC, dI)) (ci := 2) (v := .int (nI ci)) (C := RX2) (T := TX2) (N := 12) hx hb hts hin_X2_free_X2 hown hK hP 0 rfl rfl 6 (by decide) (hts (.fieldLink RX2 43 "StepMapModel" "current" "I") (by decide +kernel)) (fun _ h9 => h9) rfl dX2_free_5 ?_
  refine r_roV (rest := []) S0 (c_X2_behind l dC dI cI g0 gs gk gv gz L Sx Kx Vx Zx x0 (nI ci) x7 x8 x9 (nI vi) x11 e9 ci A.1 (by omega) hz hpA (by omega)) (cwV 2 hts gX2_free_X2_behind rfl rfl rfl (by decide +kernel) ⟨Nat.le_of_ble_eq_true rfl, Nat.le_of_ble_eq_true rfl⟩) hK hP [0, 1, 2, 3, 4] rfl (ci := 2) (q0 := 0) rfl rfl rfl rfl hl.1 rfl (Nat.le_of_ble_eq_true rfl) dX2_free_8 ⟨Nat.zero_le _, Nat.zero_le _⟩ ?_
  refine lv_istore_n (lv' := [(3, .int (nI (q_ad A.1 e9 1))), (2, .int (nI e9)), (0, .ref g0), (1, .int (nI e9))]) hx hb dX2_free_11 rfl hl (by decide) rfl (fun ls hl => ?_)
  refine lv_aload_n hx hb dX2_free_12 rfl (lv_at hl 2 rfl) ?_
  refine lv_dup hx hb dX2_free_13 rfl ?_
  refine va_get (D := (dC, dI)) (ci := 2) (v := .int (nI vi)) (C := RX2) (T := TX2) (N := 12) hx hb hts hin_X2_free_X2 hown hK hP 0 rfl rfl 10 (by decide) (hts (.fieldLink RX2 34 "StepMapModel" "visits" "I") (by decide +kernel)) (fun _ h9 => h9) rfl dX2_free_14 ?_
  refine lv_iconst (v := 1) hx hb dX2_free_17 (by decide) ?_
  refine lv_iadd hx hb dX2_free_18 ?_
  refine r_eq (z := nI (vi + 1)) (nI_add vi 1) ?_
  refine va_put (D := (dC, dI)) (ci := 2) (v := .int (nI (vi + 1))) (ty := .int) (C := RX2) (T := TX2) (N := 12) hx hb hts hin_X2_free_X2 tyX2 tyX2_ok nmX2 hown hK hP hD hS 0 rfl rfl 10 (by decide) (hts (.fieldLink RX2 34 "StepMapModel" "visits" "I") (by decide +kernel)) (fun _ h9 => h9) rfl (by decide +kernel) (rfl) (rfl) (Nat.le_of_ble_eq_true rfl) dX2_free_19 (fun H locs hP hD hS => ?_)
  have hP : va_P (dC, dI) vwCl [(g0, .inr (2, [.int x0, .int (nI L), .ref gs, .ref gk, .ref gv, .ref gz, .int (nI ci), .int x7, .int x8, .int x9, .int (nI (vi + 1)), .int x11])), (gs, .inl (cI, 2048, .inl Sx)), (gk, .inl (cI, 2048, .inl Kx)), (gv, .inl (cI, 2048, .inl Vx)), (gz, .inl (cI, 2, .inl Zx))] H := hP
  have hD : va_D Aq [(g0, .inr (2, [.int x0, .int (nI L), .ref gs, .ref gk, .ref gv, .ref gz, .int (nI ci), .int x7, .int x8, .int x9, .int (nI (vi + 1)), .int x11])), (gs, .inl (cI, 2048, .inl Sx)), (gk, .inl (cI, 2048, .inl Kx)), (gv, .inl (cI, 2048, .inl Vx)), (gz, .inl (cI, 2, .inl Zx))] := hD
  obtain ⟨RT, hRT9⟩ : ∃ z, (q_fr A e9).1 = z := ⟨_, rfl⟩
  obtain ⟨RW, hRW⟩ : ∃ z, vi + 1 + (q_fr A e9).2 = z := ⟨_, rfl⟩
  refine lp_X2_free S0 hK hA g0 gs gk gv gz L Zx x0 x7 x8 x9 x11 ci A.1 RW RT Sx Kx Vx hci hz hpA (fun Sy Ky Vy fr g1 g2 g3 g4 H locs ls hP hD hS hl => ?_) (A.1 - 1) e9 (q_ad A.1 e9 1) (vi + 1) (A.1, upd A.2.1 e9 0, A.2.2.1, A.2.2.2) Sx Kx Vx ⟨rfl, q_fr_FI hN hP9 hU hE he h2, q_RF_0 hRT he h2, hRT9, hRW⟩ H locs ls hP hD hS (lv_sub hl [2, 1, 0] rfl)
  have hfr9 : fr < 1024 := by omega
  refine lv_aload_n hx hb dX2_free_149 rfl (lv_at hl 0 rfl) ?_
  refine va_get (D := (dC, dI)) (ci := 2) (v := .ref gs) (C := RX2) (T := TX2) (N := 12) hx hb hts hin_X2_free_X2 hown hK hP 0 rfl rfl 2 (by decide) (hts (.fieldLink RX2 7 "StepMapModel" "states" "[I") (by decide +kernel)) (fun _ h9 => h9) rfl dX2_free_150 ?_
  refine lv_aload_n hx hb dX2_free_153 rfl (lv_at hl 0 rfl) ?_
  refine lv_aload_n hx hb dX2_free_154 rfl (lv_at hl 0 rfl) ?_
  refine va_get (D := (dC, dI)) (ci := 2) (v := .int (nI ci)) (C := RX2) (T := TX2) (N := 12) hx hb hts hin_X2_free_X2 hown hK hP 0 rfl rfl 6 (by decide) (hts (.fieldLink RX2 43 "StepMapModel" "current" "I") (by decide +kernel)) (fun _ h9 => h9) rfl dX2_free_155 ?_
  refine lv_iload_n hx hb dX2_free_158 rfl (lv_at hl 1 rfl) ?_
  refine r_roV (rest := [.ref gs]) S0 (c_X2_at l dC dI cI g0 gs gk gv gz L Sy Ky Vy Zx x0 (nI ci) x7 x8 x9 (nI RW) x11 ci fr) (cwV 2 hts gX2_free_X2_at rfl rfl rfl (by decide +kernel) ⟨Nat.le_of_ble_eq_true rfl, Nat.le_of_ble_eq_true rfl⟩) hK hP [0, 1, 2, 3, 4] rfl (ci := 2) (q0 := 0) rfl rfl rfl rfl hl.1 rfl (Nat.le_of_ble_eq_true rfl) dX2_free_159 ⟨Nat.zero_le _, Nat.zero_le _⟩ ?_
  refine lv_iconst (v := 0) hx hb dX2_free_162 (by decide) ?_
  refine r_st (i := 1024 * ci + fr) hx hb hK hP hD hS 1 0 rfl rfl (by omega) (by omega) dX2_free_163 (fun H locs hP hD hS => ?_)
  have hP : va_P (dC, dI) vwCl [(g0, .inr (2, [.int x0, .int (nI L), .ref gs, .ref gk, .ref gv, .ref gz, .int (nI ci), .int x7, .int x8, .int x9, .int (nI RW), .int x11])), (gs, .inl (cI, 2048, .inl (upd Sy (1024 * ci + fr) 0))), (gk, .inl (cI, 2048, .inl Ky)), (gv, .inl (cI, 2048, .inl Vy)), (gz, .inl (cI, 2, .inl Zx))] H := hP
  have hD : va_D Aq [(g0, .inr (2, [.int x0, .int (nI L), .ref gs, .ref gk, .ref gv, .ref gz, .int (nI ci), .int x7, .int x8, .int x9, .int (nI RW), .int x11])), (gs, .inl (cI, 2048, .inl (upd Sy (1024 * ci + fr) 0))), (gk, .inl (cI, 2048, .inl Ky)), (gv, .inl (cI, 2048, .inl Vy)), (gz, .inl (cI, 2, .inl Zx))] := hD
  have e_0_10 : nI RW = nI (vi + ((q_fr A e9).2 + 1)) := by rw [← hRW]; exact congrArg nI (by omega)
  have hP : va_P (dC, dI) vwCl [(g0, .inr (2, [.int x0, .int (nI L), .ref gs, .ref gk, .ref gv, .ref gz, .int (nI ci), .int x7, .int x8, .int x9, .int (nI (vi + ((q_fr A e9).2 + 1))), .int x11])), (gs, .inl (cI, 2048, .inl (upd Sy (1024 * ci + fr) 0))), (gk, .inl (cI, 2048, .inl Ky)), (gv, .inl (cI, 2048, .inl Vy)), (gz, .inl (cI, 2, .inl Zx))] H := by rw [← e_0_10]; exact hP
  have hD : va_D Aq [(g0, .inr (2, [.int x0, .int (nI L), .ref gs, .ref gk, .ref gv, .ref gz, .int (nI ci), .int x7, .int x8, .int x9, .int (nI (vi + ((q_fr A e9).2 + 1))), .int x11])), (gs, .inl (cI, 2048, .inl (upd Sy (1024 * ci + fr) 0))), (gk, .inl (cI, 2048, .inl Ky)), (gv, .inl (cI, 2048, .inl Vy)), (gz, .inl (cI, 2, .inl Zx))] := by rw [← e_0_10]; exact hD
  obtain ⟨r1, r2⟩ := q_RF_end g4 g2 g3
  rw [g1] at r2
  subst hRT9
  exact W.vret hx hb hr (fun t ht hW => ⟨⟨(upd Sy (1024 * ci + fr) 0, Ky, Vy), rfl, ⟨r1, r2⟩, by rw [ht]; exact hP, va_K.moved hW.alike hK, hD⟩, hS.F ht⟩) hS.2.2 dX2_free_164
set_option maxHeartbeats 4000000 in
set_option maxRecDepth 100000 in
theorem c_X2_settle (l : Launch) (dC : Nat → ClassId) (dI : Nat → Nat → Nat) (cI : ClassId) (g0 gs gk gv gz L : Nat) (Sx Kx Vx Zx : Nat → Int32) (x0 x7 x8 x11 : Int32) (ci vi : Nat) (A B : q_TB) (nx : Option Nat) (kc : Nat) (sz : Nat) (hW : q_IW L A B nx kc) (hR : q_RL (A, B, nx, kc, 0) ci Sx Kx Vx Zx x7 x8) : Met l yX2_settle wsX2_settle ({ frames := 3, cells := 0, slots := 0, locals := 71 }) (r_Mc (dC, dI) vwCl [(cI, .int)] [(g0, .inr (2, [.int x0, .int (nI L), .ref gs, .ref gk, .ref gv, .ref gz, .int (nI ci), .int x7, .int x8, .int (nI kc), .int (nI vi), .int x11])), (gs, .inl (cI, 2048, .inl Sx)), (gk, .inl (cI, 2048, .inl Kx)), (gv, .inl (cI, 2048, .inl Vx)), (gz, .inl (cI, 2, .inl Zx))] sz [.ref g0]) (va_Qv (fun (u : Nat × q_A3 × (Nat → Int32) × Int32 × Int32) => q_RL (q_on A B nx kc vi) u.1 u.2.1.1 u.2.1.2.1 u.2.1.2.2 u.2.2.1 u.2.2.2.1 u.2.2.2.2) (fun u t => r_B (dC, dI) vwCl [(cI, .int)] (va_A [(g0, .inr (2, [.int x0, .int (nI L), .ref gs, .ref gk, .ref gv, .ref gz, .int (nI ci), .int x7, .int x8, .int (nI kc), .int (nI vi), .int x11])), (gs, .inl (cI, 2048, .inl Sx)), (gk, .inl (cI, 2048, .inl Kx)), (gv, .inl (cI, 2048, .inl Vx)), (gz, .inl (cI, 2, .inl Zx))] sz) ((fun u => [(g0, .inr (2, [.int x0, .int (nI L), .ref gs, .ref gk, .ref gv, .ref gz, .int (nI u.1), .int u.2.2.2.1, .int u.2.2.2.2, .int (nI kc), .int (nI (q_on A B nx kc vi).2.2.2.2), .int x11])), (gs, .inl (cI, 2048, .inl u.2.1.1)), (gk, .inl (cI, 2048, .inl u.2.1.2.1)), (gv, .inl (cI, 2048, .inl u.2.1.2.2)), (gz, .inl (cI, 2, .inl u.2.2.1))]) u) t) (va_A [(g0, .inr (2, [.int x0, .int (nI L), .ref gs, .ref gk, .ref gv, .ref gz, .int (nI ci), .int x7, .int x8, .int (nI kc), .int (nI vi), .int x11])), (gs, .inl (cI, 2048, .inl Sx)), (gk, .inl (cI, 2048, .inl Kx)), (gv, .inl (cI, 2048, .inl Vx)), (gz, .inl (cI, 2, .inl Zx))] sz)) 0 0 (va_A [(g0, .inr (2, [.int x0, .int (nI L), .ref gs, .ref gk, .ref gv, .ref gz, .int (nI ci), .int x7, .int x8, .int (nI kc), .int (nI vi), .int x11])), (gs, .inl (cI, 2048, .inl Sx)), (gk, .inl (cI, 2048, .inl Kx)), (gv, .inl (cI, 2048, .inl Vx)), (gz, .inl (cI, 2, .inl Zx))] sz) := by
  refine Met.ofW (cc := cX2_settle) (maxL := 2) (ret := none) (by decide) rfl ?_
  intro p e s m args below meth c s₁ Bd hml hv
  obtain ⟨rfl, hsz, hP, hK, hD0⟩ := hv
  have hx := Bd.exec
  have hb := Bd.bytes
  have hr := Bd.returns
  have hts := atoms_spec (ws := wsX2_settle) Bd.pre
  have hown : s.vm.findClass RX2 = some m.cls := findClass_of_methodNamed Bd.named
  have hlocks := Bd.notSynchronized
  have S0 : CallFix p m c cX2_settle 2 s _ wsX2_settle RX2 := ⟨hx, hb, hml, hown, hts⟩
  subst hsz
  have hD := hD0.self (sz := s.heap.size)
  generalize hAe : va_A [(g0, .inr (2, [.int x0, .int (nI L), .ref gs, .ref gk, .ref gv, .ref gz, .int (nI ci), .int x7, .int x8, .int (nI kc), .int (nI vi), .int x11])), (gs, .inl (cI, 2048, .inl Sx)), (gk, .inl (cI, 2048, .inl Kx)), (gv, .inl (cI, 2048, .inl Vx)), (gz, .inl (cI, 2, .inl Zx))] s.heap.size = Aq at hD ⊢
  have hA : ∀ q : Nat, s.heap.size ≤ q → Aq q := fun q h => by rw [← hAe]; exact Or.inr h
  have hS : va_S Aq s.heap s.heap [] := va_S.rf
  have hD : va_D Aq [(g0, .inr (2, [.int x0, .int (nI L), .ref gs, .ref gk, .ref gv, .ref gz, .int (nI ci), .int x7, .int x8, .int (nI kc), .int (nI vi), .int x11])), (gs, .inl (cI, 2048, .inl Sx)), (gk, .inl (cI, 2048, .inl Kx)), (gv, .inl (cI, 2048, .inl Vx)), (gz, .inl (cI, 2, .inl Zx))] := hD
  have hP : va_P (dC, dI) vwCl [(g0, .inr (2, [.int x0, .int (nI L), .ref gs, .ref gk, .ref gv, .ref gz, .int (nI ci), .int x7, .int x8, .int (nI kc), .int (nI vi), .int x11])), (gs, .inl (cI, 2048, .inl Sx)), (gk, .inl (cI, 2048, .inl Kx)), (gv, .inl (cI, 2048, .inl Vx)), (gz, .inl (cI, 2, .inl Zx))] s.heap := hP
  have hl := lv_entry ([.ref g0]) (n := 2) (Nat.le_of_ble_eq_true rfl)
  rw [lg_entry_eq]
  generalize (lg_sl ([.ref g0]) ++ List.replicate (2 - (lg_sl ([.ref g0])).length) Slot.unset).toArray = ls at hl ⊢
  have hl : lv_has ls 2 [(0, .ref g0)] := hl
  obtain ⟨hSZ, hW2⟩ := id hW
  obtain ⟨hLp, hpA, hAL, hpB, hBL⟩ := id hSZ
  have hL := (q_pw_8 hLp).2
  have hA8 := q_pw_8 hpA
  have hB8 := q_pw_8 hpB
  have hkc := q_iw_kc hW
  obtain ⟨hci, hzA, hRTA, hmv, hcr⟩ := hR
  have hzA : Zx ci = nI A.1 := hzA
  have hRTA : q_RT Sx Kx Vx ci A := hRTA
  rcases nx with _ | cu
  · obtain ⟨hN, hP9, hU9, hk9, h49, h29⟩ := hW2
    have e_0_7 : x7 = 0 := hmv.trans (q_b_f (fun y => by cases y))
    have hP : va_P (dC, dI) vwCl [(g0, .inr (2, [.int x0, .int (nI L), .ref gs, .ref gk, .ref gv, .ref gz, .int (nI ci), .int 0, .int x8, .int (nI kc), .int (nI vi), .int x11])), (gs, .inl (cI, 2048, .inl Sx)), (gk, .inl (cI, 2048, .inl Kx)), (gv, .inl (cI, 2048, .inl Vx)), (gz, .inl (cI, 2, .inl Zx))] s.heap := by rw [← e_0_7]; exact hP
    have hD : va_D Aq [(g0, .inr (2, [.int x0, .int (nI L), .ref gs, .ref gk, .ref gv, .ref gz, .int (nI ci), .int 0, .int x8, .int (nI kc), .int (nI vi), .int x11])), (gs, .inl (cI, 2048, .inl Sx)), (gk, .inl (cI, 2048, .inl Kx)), (gv, .inl (cI, 2048, .inl Vx)), (gz, .inl (cI, 2, .inl Zx))] := by rw [← e_0_7]; exact hD
    refine lv_aload_n hx hb dX2_settle_0 rfl (lv_at hl 0 rfl) ?_
    refine va_get (D := (dC, dI)) (ci := 2) (v := .int 0) (C := RX2) (T := TX2) (N := 12) hx hb hts hin_X2_settle_X2 hown hK hP 0 rfl rfl 7 (by decide) (hts (.fieldLink RX2 56 "StepMapModel" "moving" "Z") (by decide +kernel)) (fun _ h9 => h9) rfl dX2_settle_1 ?_
    refine lv_if_eq (tgt := 11) hx hb dX2_settle_4 (by decide) (fun c_4 => ?_) (fun c_4 => ?_)
    · have h_4 := q_eq_t (a := 0) (b := 0) (by omega) (by omega) c_4
      refine lv_aload_n hx hb dX2_settle_11 rfl (lv_at hl 0 rfl) ?_
      refine va_get (D := (dC, dI)) (ci := 2) (v := .ref gz) (C := RX2) (T := TX2) (N := 12) hx hb hts hin_X2_settle_X2 hown hK hP 0 rfl rfl 5 (by decide) (hts (.fieldLink RX2 19 "StepMapModel" "sizes" "[I") (by decide +kernel)) (fun _ h9 => h9) rfl dX2_settle_12 ?_
      refine lv_aload_n hx hb dX2_settle_15 rfl (lv_at hl 0 rfl) ?_
      refine va_get (D := (dC, dI)) (ci := 2) (v := .int (nI ci)) (C := RX2) (T := TX2) (N := 12) hx hb hts hin_X2_settle_X2 hown hK hP 0 rfl rfl 6 (by decide) (hts (.fieldLink RX2 43 "StepMapModel" "current" "I") (by decide +kernel)) (fun _ h9 => h9) rfl dX2_settle_16 ?_
      refine r_ld (i := ci) hx hb hK hP 4 0 rfl rfl (by omega) (by omega) dX2_settle_19 ?_
      refine r_eq (z := nI A.1) (hzA) ?_
      refine lv_istore_n (lv' := [(1, .int (nI A.1)), (0, .ref g0)]) hx hb dX2_settle_20 rfl hl (by decide) rfl (fun ls hl => ?_)
      refine lv_aload_n hx hb dX2_settle_21 rfl (lv_at hl 1 rfl) ?_
      refine va_get (D := (dC, dI)) (ci := 2) (v := .int 0) (C := RX2) (T := TX2) (N := 12) hx hb hts hin_X2_settle_X2 hown hK hP 0 rfl rfl 7 (by decide) (hts (.fieldLink RX2 56 "StepMapModel" "moving" "Z") (by decide +kernel)) (fun _ h9 => h9) rfl dX2_settle_22 ?_
      refine lv_if_ne (tgt := 50) hx hb dX2_settle_25 (by decide) (fun c_25 => ?_) (fun c_25 => ?_)
      · have h_25 := q_eq_f (a := 0) (b := 0) (by omega) (by omega) c_25
        omega
      · have h_25 := q_eq_t (a := 0) (b := 0) (by omega) (by omega) c_25
        refine lv_iconst (v := 4) hx hb dX2_settle_28 (by decide) ?_
        refine lv_aload_n hx hb dX2_settle_29 rfl (lv_at hl 1 rfl) ?_
        refine va_get (D := (dC, dI)) (ci := 2) (v := .int (nI kc)) (C := RX2) (T := TX2) (N := 12) hx hb hts hin_X2_settle_X2 hown hK hP 0 rfl rfl 9 (by decide) (hts (.fieldLink RX2 63 "StepMapModel" "count" "I") (by decide +kernel)) (fun _ h9 => h9) rfl dX2_settle_30 ?_
        refine lv_imul hx hb dX2_settle_33 ?_
        refine r_eq (z := nI (4 * kc)) (pk_mul 4 kc) ?_
        refine lv_iconst (v := 3) hx hb dX2_settle_34 (by decide) ?_
        refine lv_iload_n hx hb dX2_settle_35 rfl (lv_at hl 0 rfl) ?_
        refine lv_imul hx hb dX2_settle_36 ?_
        refine r_eq (z := nI (3 * A.1)) (pk_mul 3 A.1) ?_
        refine lv_icmp_lt (tgt := 50) hx hb dX2_settle_37 (by decide) (fun c_37 => ?_) (fun c_37 => ?_)
        · have h_37 := q_lt_t (a := 4 * kc) (b := 3 * A.1) (by omega) (by omega) c_37
          refine lv_aload_n hx hb dX2_settle_50 rfl (lv_at hl 1 rfl) ?_
          refine va_get (D := (dC, dI)) (ci := 2) (v := .int 0) (C := RX2) (T := TX2) (N := 12) hx hb hts hin_X2_settle_X2 hown hK hP 0 rfl rfl 7 (by decide) (hts (.fieldLink RX2 56 "StepMapModel" "moving" "Z") (by decide +kernel)) (fun _ h9 => h9) rfl dX2_settle_51 ?_
          refine lv_if_ne (tgt := 81) hx hb dX2_settle_54 (by decide) (fun c_54 => ?_) (fun c_54 => ?_)
          · have h_54 := q_eq_f (a := 0) (b := 0) (by omega) (by omega) c_54
            omega
          · have h_54 := q_eq_t (a := 0) (b := 0) (by omega) (by omega) c_54
            refine lv_iload_n hx hb dX2_settle_57 rfl (lv_at hl 0 rfl) ?_
            refine lv_bipush (v := 8) hx hb dX2_settle_58 (by decide) ?_
            refine lv_icmp_le (tgt := 81) hx hb dX2_settle_60 (by decide) (fun c_60 => ?_) (fun c_60 => ?_)
            · have h_60 := q_le_t (a := A.1) (b := 8) (by omega) (by omega) c_60
              have eq : q_on A B none kc vi = (A, B, none, kc, vi) := (q_on_n _ _ _ _).trans (q_set0_3 (by omega) (by omega))
              have hRL : q_RL (q_on A B none kc vi) ci Sx Kx Vx Zx 0 x8 := by rw [eq]; exact q_RL_none hci hzA hRTA
              have hP : va_P (dC, dI) vwCl [(g0, .inr (2, [.int x0, .int (nI L), .ref gs, .ref gk, .ref gv, .ref gz, .int (nI ci), .int 0, .int x8, .int (nI kc), .int (nI (q_on A B none kc vi).2.2.2.2), .int x11])), (gs, .inl (cI, 2048, .inl Sx)), (gk, .inl (cI, 2048, .inl Kx)), (gv, .inl (cI, 2048, .inl Vx)), (gz, .inl (cI, 2, .inl Zx))] s.heap := by rw [eq]; exact hP
              have hD : va_D Aq [(g0, .inr (2, [.int x0, .int (nI L), .ref gs, .ref gk, .ref gv, .ref gz, .int (nI ci), .int 0, .int x8, .int (nI kc), .int (nI (q_on A B none kc vi).2.2.2.2), .int x11])), (gs, .inl (cI, 2048, .inl Sx)), (gk, .inl (cI, 2048, .inl Kx)), (gv, .inl (cI, 2048, .inl Vx)), (gz, .inl (cI, 2, .inl Zx))] := by rw [eq]; exact hD
              exact W.vret hx hb hr (fun t ht hW => ⟨⟨(ci, (Sx, Kx, Vx), Zx, 0, x8), rfl, hRL, by rw [ht]; exact hP, va_K.moved hW.alike hK, hD⟩, hS.F ht⟩) hS.2.2 dX2_settle_81
            · have h_60 := q_le_f (a := A.1) (b := 8) (by omega) (by omega) c_60
              refine lv_bipush (v := 8) hx hb dX2_settle_63 (by decide) ?_
              refine lv_aload_n hx hb dX2_settle_65 rfl (lv_at hl 1 rfl) ?_
              refine va_get (D := (dC, dI)) (ci := 2) (v := .int (nI kc)) (C := RX2) (T := TX2) (N := 12) hx hb hts hin_X2_settle_X2 hown hK hP 0 rfl rfl 9 (by decide) (hts (.fieldLink RX2 63 "StepMapModel" "count" "I") (by decide +kernel)) (fun _ h9 => h9) rfl dX2_settle_66 ?_
              refine lv_imul hx hb dX2_settle_69 ?_
              refine r_eq (z := nI (8 * kc)) (pk_mul 8 kc) ?_
              refine lv_iload_n hx hb dX2_settle_70 rfl (lv_at hl 0 rfl) ?_
              refine lv_icmp_gt (tgt := 81) hx hb dX2_settle_71 (by decide) (fun c_71 => ?_) (fun c_71 => ?_)
              · have h_71 := q_lt_t (a := A.1) (b := 8 * kc) (by omega) (by omega) c_71
                have eq : q_on A B none kc vi = (A, B, none, kc, vi) := (q_on_n _ _ _ _).trans (q_set0_3 (by omega) (by omega))
                have hRL : q_RL (q_on A B none kc vi) ci Sx Kx Vx Zx 0 x8 := by rw [eq]; exact q_RL_none hci hzA hRTA
                have hP : va_P (dC, dI) vwCl [(g0, .inr (2, [.int x0, .int (nI L), .ref gs, .ref gk, .ref gv, .ref gz, .int (nI ci), .int 0, .int x8, .int (nI kc), .int (nI (q_on A B none kc vi).2.2.2.2), .int x11])), (gs, .inl (cI, 2048, .inl Sx)), (gk, .inl (cI, 2048, .inl Kx)), (gv, .inl (cI, 2048, .inl Vx)), (gz, .inl (cI, 2, .inl Zx))] s.heap := by rw [eq]; exact hP
                have hD : va_D Aq [(g0, .inr (2, [.int x0, .int (nI L), .ref gs, .ref gk, .ref gv, .ref gz, .int (nI ci), .int 0, .int x8, .int (nI kc), .int (nI (q_on A B none kc vi).2.2.2.2), .int x11])), (gs, .inl (cI, 2048, .inl Sx)), (gk, .inl (cI, 2048, .inl Kx)), (gv, .inl (cI, 2048, .inl Vx)), (gz, .inl (cI, 2, .inl Zx))] := by rw [eq]; exact hD
                exact W.vret hx hb hr (fun t ht hW => ⟨⟨(ci, (Sx, Kx, Vx), Zx, 0, x8), rfl, hRL, by rw [ht]; exact hP, va_K.moved hW.alike hK, hD⟩, hS.F ht⟩) hS.2.2 dX2_settle_81
              · have h_71 := q_lt_f (a := A.1) (b := 8 * kc) (by omega) (by omega) c_71
                refine lv_aload_n hx hb dX2_settle_74 rfl (lv_at hl 1 rfl) ?_
                refine lv_iload_n hx hb dX2_settle_75 rfl (lv_at hl 0 rfl) ?_
                refine lv_iconst (v := 2) hx hb dX2_settle_76 (by decide) ?_
                refine lv_idiv hx hb dX2_settle_77 (by decide) ?_
                refine r_eq (z := nI (A.1 / 2)) (pk_div (d := 2) (by omega) (by omega) (by omega)) ?_
                refine r_muV (wr := []) (rest := []) S0 (c_X2_become l dC dI cI g0 gs gk gv gz L Sx Kx Vx Zx x0 0 x8 (nI kc) (nI vi) x11 ci (A.1 / 2) s.heap.size hci (by omega)) (cwV 1 hts gX2_settle_X2_become rfl rfl rfl (by decide +kernel) ⟨Nat.le_of_ble_eq_true rfl, Nat.le_of_ble_eq_true rfl⟩) hK hP hD hS hA [0, 1, 2, 3, 4] [] rfl rfl (by decide) (by decide) (by decide) (ci := 2) (q0 := 0) rfl rfl rfl rfl hl.1 rfl (Nat.le_of_ble_eq_true rfl) dX2_settle_78 ⟨Nat.zero_le _, Nat.zero_le _⟩ (fun _ H locs hu hP hD hS => ?_)
                have hP : va_P (dC, dI) vwCl [(g0, .inr (2, [.int x0, .int (nI L), .ref gs, .ref gk, .ref gv, .ref gz, .int (nI (1 - ci)), .int 1, .int (nI 0), .int (nI kc), .int (nI vi), .int x11])), (gs, .inl (cI, 2048, .inl (q_clr Sx (1024 * (1 - ci)) (A.1 / 2)))), (gk, .inl (cI, 2048, .inl Kx)), (gv, .inl (cI, 2048, .inl Vx)), (gz, .inl (cI, 2, .inl (upd Zx (1 - ci) (nI (A.1 / 2)))))] H := hP.sub [0, 1, 2, 3, 4] rfl
                have hD : va_D Aq [(g0, .inr (2, [.int x0, .int (nI L), .ref gs, .ref gk, .ref gv, .ref gz, .int (nI (1 - ci)), .int 1, .int (nI 0), .int (nI kc), .int (nI vi), .int x11])), (gs, .inl (cI, 2048, .inl (q_clr Sx (1024 * (1 - ci)) (A.1 / 2)))), (gk, .inl (cI, 2048, .inl Kx)), (gv, .inl (cI, 2048, .inl Vx)), (gz, .inl (cI, 2, .inl (upd Zx (1 - ci) (nI (A.1 / 2)))))] := hD.sub [0, 1, 2, 3, 4] (by decide) rfl
                have eq : q_on A B none kc vi = q_start A B (A.1 / 2) kc vi := (q_on_n _ _ _ _).trans (q_set0_2 (by omega) (by omega))
                have hRL : q_RL (q_on A B none kc vi) (1 - ci) (q_clr Sx (1024 * (1 - ci)) (A.1 / 2)) Kx Vx (upd Zx (1 - ci) (nI (A.1 / 2))) 1 (nI 0) := by rw [eq]; exact q_RL_start hci hzA hRTA (by omega) (by omega)
                have hP : va_P (dC, dI) vwCl [(g0, .inr (2, [.int x0, .int (nI L), .ref gs, .ref gk, .ref gv, .ref gz, .int (nI (1 - ci)), .int 1, .int (nI 0), .int (nI kc), .int (nI (q_on A B none kc vi).2.2.2.2), .int x11])), (gs, .inl (cI, 2048, .inl (q_clr Sx (1024 * (1 - ci)) (A.1 / 2)))), (gk, .inl (cI, 2048, .inl Kx)), (gv, .inl (cI, 2048, .inl Vx)), (gz, .inl (cI, 2, .inl (upd Zx (1 - ci) (nI (A.1 / 2)))))] H := by rw [eq]; exact hP
                have hD : va_D Aq [(g0, .inr (2, [.int x0, .int (nI L), .ref gs, .ref gk, .ref gv, .ref gz, .int (nI (1 - ci)), .int 1, .int (nI 0), .int (nI kc), .int (nI (q_on A B none kc vi).2.2.2.2), .int x11])), (gs, .inl (cI, 2048, .inl (q_clr Sx (1024 * (1 - ci)) (A.1 / 2)))), (gk, .inl (cI, 2048, .inl Kx)), (gv, .inl (cI, 2048, .inl Vx)), (gz, .inl (cI, 2, .inl (upd Zx (1 - ci) (nI (A.1 / 2)))))] := by rw [eq]; exact hD
                exact W.vret hx hb hr (fun t ht hW => ⟨⟨(1 - ci, (q_clr Sx (1024 * (1 - ci)) (A.1 / 2), Kx, Vx), upd Zx (1 - ci) (nI (A.1 / 2)), 1, nI 0), rfl, hRL, by rw [ht]; exact hP, va_K.moved hW.alike hK, hD⟩, hS.F ht⟩) hS.2.2 dX2_settle_81
        · have h_37 := q_lt_f (a := 4 * kc) (b := 3 * A.1) (by omega) (by omega) c_37
          refine lv_aload_n hx hb dX2_settle_40 rfl (lv_at hl 1 rfl) ?_
          refine lv_iconst (v := 2) hx hb dX2_settle_41 (by decide) ?_
          refine lv_iload_n hx hb dX2_settle_42 rfl (lv_at hl 0 rfl) ?_
          refine lv_imul hx hb dX2_settle_43 ?_
          refine r_eq (z := nI (2 * A.1)) (pk_mul 2 A.1) ?_
          refine r_muV (wr := []) (rest := []) S0 (c_X2_become l dC dI cI g0 gs gk gv gz L Sx Kx Vx Zx x0 0 x8 (nI kc) (nI vi) x11 ci (2 * A.1) s.heap.size hci (by omega)) (cwV 1 hts gX2_settle_X2_become rfl rfl rfl (by decide +kernel) ⟨Nat.le_of_ble_eq_true rfl, Nat.le_of_ble_eq_true rfl⟩) hK hP hD hS hA [0, 1, 2, 3, 4] [] rfl rfl (by decide) (by decide) (by decide) (ci := 2) (q0 := 0) rfl rfl rfl rfl hl.1 rfl (Nat.le_of_ble_eq_true rfl) dX2_settle_44 ⟨Nat.zero_le _, Nat.zero_le _⟩ (fun _ H locs hu hP hD hS => ?_)
          have hP : va_P (dC, dI) vwCl [(g0, .inr (2, [.int x0, .int (nI L), .ref gs, .ref gk, .ref gv, .ref gz, .int (nI (1 - ci)), .int 1, .int (nI 0), .int (nI kc), .int (nI vi), .int x11])), (gs, .inl (cI, 2048, .inl (q_clr Sx (1024 * (1 - ci)) (2 * A.1)))), (gk, .inl (cI, 2048, .inl Kx)), (gv, .inl (cI, 2048, .inl Vx)), (gz, .inl (cI, 2, .inl (upd Zx (1 - ci) (nI (2 * A.1)))))] H := hP.sub [0, 1, 2, 3, 4] rfl
          have hD : va_D Aq [(g0, .inr (2, [.int x0, .int (nI L), .ref gs, .ref gk, .ref gv, .ref gz, .int (nI (1 - ci)), .int 1, .int (nI 0), .int (nI kc), .int (nI vi), .int x11])), (gs, .inl (cI, 2048, .inl (q_clr Sx (1024 * (1 - ci)) (2 * A.1)))), (gk, .inl (cI, 2048, .inl Kx)), (gv, .inl (cI, 2048, .inl Vx)), (gz, .inl (cI, 2, .inl (upd Zx (1 - ci) (nI (2 * A.1)))))] := hD.sub [0, 1, 2, 3, 4] (by decide) rfl
          refine lv_goto (tgt := 81) hx hb dX2_settle_47 (by decide) ?_
          have eq : q_on A B none kc vi = q_start A B (2 * A.1) kc vi := (q_on_n _ _ _ _).trans (q_set0_1 (by omega))
          have hRL : q_RL (q_on A B none kc vi) (1 - ci) (q_clr Sx (1024 * (1 - ci)) (2 * A.1)) Kx Vx (upd Zx (1 - ci) (nI (2 * A.1))) 1 (nI 0) := by rw [eq]; exact q_RL_start hci hzA hRTA (by omega) (by omega)
          have hP : va_P (dC, dI) vwCl [(g0, .inr (2, [.int x0, .int (nI L), .ref gs, .ref gk, .ref gv, .ref gz, .int (nI (1 - ci)), .int 1, .int (nI 0), .int (nI kc), .int (nI (q_on A B none kc vi).2.2.2.2), .int x11])), (gs, .inl (cI, 2048, .inl (q_clr Sx (1024 * (1 - ci)) (2 * A.1)))), (gk, .inl (cI, 2048, .inl Kx)), (gv, .inl (cI, 2048, .inl Vx)), (gz, .inl (cI, 2, .inl (upd Zx (1 - ci) (nI (2 * A.1)))))] H := by rw [eq]; exact hP
          have hD : va_D Aq [(g0, .inr (2, [.int x0, .int (nI L), .ref gs, .ref gk, .ref gv, .ref gz, .int (nI (1 - ci)), .int 1, .int (nI 0), .int (nI kc), .int (nI (q_on A B none kc vi).2.2.2.2), .int x11])), (gs, .inl (cI, 2048, .inl (q_clr Sx (1024 * (1 - ci)) (2 * A.1)))), (gk, .inl (cI, 2048, .inl Kx)), (gv, .inl (cI, 2048, .inl Vx)), (gz, .inl (cI, 2, .inl (upd Zx (1 - ci) (nI (2 * A.1)))))] := by rw [eq]; exact hD
          exact W.vret hx hb hr (fun t ht hW => ⟨⟨(1 - ci, (q_clr Sx (1024 * (1 - ci)) (2 * A.1), Kx, Vx), upd Zx (1 - ci) (nI (2 * A.1)), 1, nI 0), rfl, hRL, by rw [ht]; exact hP, va_K.moved hW.alike hK, hD⟩, hS.F ht⟩) hS.2.2 dX2_settle_81
    · have h_4 := q_eq_f (a := 0) (b := 0) (by omega) (by omega) c_4
      omega
  · obtain ⟨hM, hk9, hc4, hcB, h49, h29⟩ := hW2
    have hB4 := q_pw_4 hpB
    obtain ⟨hcr, hzB, hRTB⟩ := hcr cu rfl
    have hzB : Zx (1 - ci) = nI B.1 := hzB
    have hRTB : q_RT Sx Kx Vx (1 - ci) B := hRTB
    obtain ⟨hn1, hn2⟩ := q_mvs_n 4 A B cu
    obtain ⟨Z9, hZ⟩ : ∃ z, q_mvs 4 A B cu = z := ⟨_, rfl⟩
    rw [hZ] at hn1 hn2
    have e_0_7 : x7 = 1 := hmv.trans (q_b_t rfl)
    have hP : va_P (dC, dI) vwCl [(g0, .inr (2, [.int x0, .int (nI L), .ref gs, .ref gk, .ref gv, .ref gz, .int (nI ci), .int 1, .int x8, .int (nI kc), .int (nI vi), .int x11])), (gs, .inl (cI, 2048, .inl Sx)), (gk, .inl (cI, 2048, .inl Kx)), (gv, .inl (cI, 2048, .inl Vx)), (gz, .inl (cI, 2, .inl Zx))] s.heap := by rw [← e_0_7]; exact hP
    have hD : va_D Aq [(g0, .inr (2, [.int x0, .int (nI L), .ref gs, .ref gk, .ref gv, .ref gz, .int (nI ci), .int 1, .int x8, .int (nI kc), .int (nI vi), .int x11])), (gs, .inl (cI, 2048, .inl Sx)), (gk, .inl (cI, 2048, .inl Kx)), (gv, .inl (cI, 2048, .inl Vx)), (gz, .inl (cI, 2, .inl Zx))] := by rw [← e_0_7]; exact hD
    have e_0_8 : x8 = nI cu := hcr
    have hP : va_P (dC, dI) vwCl [(g0, .inr (2, [.int x0, .int (nI L), .ref gs, .ref gk, .ref gv, .ref gz, .int (nI ci), .int 1, .int (nI cu), .int (nI kc), .int (nI vi), .int x11])), (gs, .inl (cI, 2048, .inl Sx)), (gk, .inl (cI, 2048, .inl Kx)), (gv, .inl (cI, 2048, .inl Vx)), (gz, .inl (cI, 2, .inl Zx))] s.heap := by rw [← e_0_8]; exact hP
    have hD : va_D Aq [(g0, .inr (2, [.int x0, .int (nI L), .ref gs, .ref gk, .ref gv, .ref gz, .int (nI ci), .int 1, .int (nI cu), .int (nI kc), .int (nI vi), .int x11])), (gs, .inl (cI, 2048, .inl Sx)), (gk, .inl (cI, 2048, .inl Kx)), (gv, .inl (cI, 2048, .inl Vx)), (gz, .inl (cI, 2, .inl Zx))] := by rw [← e_0_8]; exact hD
    refine lv_aload_n hx hb dX2_settle_0 rfl (lv_at hl 0 rfl) ?_
    refine va_get (D := (dC, dI)) (ci := 2) (v := .int 1) (C := RX2) (T := TX2) (N := 12) hx hb hts hin_X2_settle_X2 hown hK hP 0 rfl rfl 7 (by decide) (hts (.fieldLink RX2 56 "StepMapModel" "moving" "Z") (by decide +kernel)) (fun _ h9 => h9) rfl dX2_settle_1 ?_
    refine lv_if_eq (tgt := 11) hx hb dX2_settle_4 (by decide) (fun c_4 => ?_) (fun c_4 => ?_)
    · have h_4 := q_eq_t (a := 1) (b := 0) (by omega) (by omega) c_4
      omega
    · have h_4 := q_eq_f (a := 1) (b := 0) (by omega) (by omega) c_4
      refine lv_aload_n hx hb dX2_settle_7 rfl (lv_at hl 0 rfl) ?_
      refine r_muV (wr := []) (rest := []) S0 (c_X2_moveSome l dC dI cI g0 gs gk gv gz L Sx Kx Vx Zx x0 1 (nI kc) x11 ci vi cu A B s.heap.size hci hzA hzB hpA hpB hM (by omega) hRTA hRTB) (cwV 0 hts gX2_settle_X2_moveSome rfl rfl rfl (by decide +kernel) ⟨Nat.le_of_ble_eq_true rfl, Nat.le_of_ble_eq_true rfl⟩) hK hP hD hS hA [0, 1, 2, 3, 4] [] rfl rfl (by decide) (by decide) (by decide) (ci := 2) (q0 := 0) rfl rfl rfl rfl hl.1 rfl (Nat.le_of_ble_eq_true rfl) dX2_settle_8 ⟨Nat.zero_le _, Nat.zero_le _⟩ (fun u H locs hu hP hD hS => ?_)
      have hP : va_P (dC, dI) vwCl [(g0, .inr (2, [.int x0, .int (nI L), .ref gs, .ref gk, .ref gv, .ref gz, .int (nI ci), .int (q_b (cu + 4 < B.1)), .int (nI (cu + 4)), .int (nI kc), .int (nI (vi + (q_mvs 4 A B cu).2.2)), .int x11])), (gs, .inl (cI, 2048, .inl u.1)), (gk, .inl (cI, 2048, .inl u.2.1)), (gv, .inl (cI, 2048, .inl u.2.2)), (gz, .inl (cI, 2, .inl Zx))] H := hP.sub [0, 1, 2, 3, 4] rfl
      have hD : va_D Aq [(g0, .inr (2, [.int x0, .int (nI L), .ref gs, .ref gk, .ref gv, .ref gz, .int (nI ci), .int (q_b (cu + 4 < B.1)), .int (nI (cu + 4)), .int (nI kc), .int (nI (vi + (q_mvs 4 A B cu).2.2)), .int x11])), (gs, .inl (cI, 2048, .inl u.1)), (gk, .inl (cI, 2048, .inl u.2.1)), (gv, .inl (cI, 2048, .inl u.2.2)), (gz, .inl (cI, 2, .inl Zx))] := hD.sub [0, 1, 2, 3, 4] (by decide) rfl
      rw [hZ] at hP hD hu
      have hP : va_P (dC, dI) vwCl [(g0, .inr (2, [.int x0, .int (nI L), .ref gs, .ref gk, .ref gv, .ref gz, .int (nI ci), .int (q_b (cu + 4 < B.1)), .int (nI (cu + 4)), .int (nI kc), .int (nI (vi + Z9.2.2)), .int x11])), (gs, .inl (cI, 2048, .inl u.1)), (gk, .inl (cI, 2048, .inl u.2.1)), (gv, .inl (cI, 2048, .inl u.2.2)), (gz, .inl (cI, 2, .inl Zx))] H := hP
      have hD : va_D Aq [(g0, .inr (2, [.int x0, .int (nI L), .ref gs, .ref gk, .ref gv, .ref gz, .int (nI ci), .int (q_b (cu + 4 < B.1)), .int (nI (cu + 4)), .int (nI kc), .int (nI (vi + Z9.2.2)), .int x11])), (gs, .inl (cI, 2048, .inl u.1)), (gk, .inl (cI, 2048, .inl u.2.1)), (gv, .inl (cI, 2048, .inl u.2.2)), (gz, .inl (cI, 2, .inl Zx))] := hD
      obtain ⟨g5, g6⟩ := hu
      by_cases hlt : cu + 4 < B.1
      · have e_0_7 : q_b (cu + 4 < B.1) = 1 := q_b_t hlt
        have hP : va_P (dC, dI) vwCl [(g0, .inr (2, [.int x0, .int (nI L), .ref gs, .ref gk, .ref gv, .ref gz, .int (nI ci), .int 1, .int (nI (cu + 4)), .int (nI kc), .int (nI (vi + Z9.2.2)), .int x11])), (gs, .inl (cI, 2048, .inl u.1)), (gk, .inl (cI, 2048, .inl u.2.1)), (gv, .inl (cI, 2048, .inl u.2.2)), (gz, .inl (cI, 2, .inl Zx))] H := by rw [← e_0_7]; exact hP
        have hD : va_D Aq [(g0, .inr (2, [.int x0, .int (nI L), .ref gs, .ref gk, .ref gv, .ref gz, .int (nI ci), .int 1, .int (nI (cu + 4)), .int (nI kc), .int (nI (vi + Z9.2.2)), .int x11])), (gs, .inl (cI, 2048, .inl u.1)), (gk, .inl (cI, 2048, .inl u.2.1)), (gv, .inl (cI, 2048, .inl u.2.2)), (gz, .inl (cI, 2, .inl Zx))] := by rw [← e_0_7]; exact hD
        refine lv_aload_n hx hb dX2_settle_11 rfl (lv_at hl 0 rfl) ?_
        refine va_get (D := (dC, dI)) (ci := 2) (v := .ref gz) (C := RX2) (T := TX2) (N := 12) hx hb hts hin_X2_settle_X2 hown hK hP 0 rfl rfl 5 (by decide) (hts (.fieldLink RX2 19 "StepMapModel" "sizes" "[I") (by decide +kernel)) (fun _ h9 => h9) rfl dX2_settle_12 ?_
        refine lv_aload_n hx hb dX2_settle_15 rfl (lv_at hl 0 rfl) ?_
        refine va_get (D := (dC, dI)) (ci := 2) (v := .int (nI ci)) (C := RX2) (T := TX2) (N := 12) hx hb hts hin_X2_settle_X2 hown hK hP 0 rfl rfl 6 (by decide) (hts (.fieldLink RX2 43 "StepMapModel" "current" "I") (by decide +kernel)) (fun _ h9 => h9) rfl dX2_settle_16 ?_
        refine r_ld (i := ci) hx hb hK hP 4 0 rfl rfl (by omega) (by omega) dX2_settle_19 ?_
        refine r_eq (z := nI A.1) (hzA) ?_
        refine lv_istore_n (lv' := [(1, .int (nI A.1)), (0, .ref g0)]) hx hb dX2_settle_20 rfl hl (by decide) rfl (fun ls hl => ?_)
        refine lv_aload_n hx hb dX2_settle_21 rfl (lv_at hl 1 rfl) ?_
        refine va_get (D := (dC, dI)) (ci := 2) (v := .int 1) (C := RX2) (T := TX2) (N := 12) hx hb hts hin_X2_settle_X2 hown hK hP 0 rfl rfl 7 (by decide) (hts (.fieldLink RX2 56 "StepMapModel" "moving" "Z") (by decide +kernel)) (fun _ h9 => h9) rfl dX2_settle_22 ?_
        refine lv_if_ne (tgt := 50) hx hb dX2_settle_25 (by decide) (fun c_25 => ?_) (fun c_25 => ?_)
        · have h_25 := q_eq_f (a := 1) (b := 0) (by omega) (by omega) c_25
          refine lv_aload_n hx hb dX2_settle_50 rfl (lv_at hl 1 rfl) ?_
          refine va_get (D := (dC, dI)) (ci := 2) (v := .int 1) (C := RX2) (T := TX2) (N := 12) hx hb hts hin_X2_settle_X2 hown hK hP 0 rfl rfl 7 (by decide) (hts (.fieldLink RX2 56 "StepMapModel" "moving" "Z") (by decide +kernel)) (fun _ h9 => h9) rfl dX2_settle_51 ?_
          refine lv_if_ne (tgt := 81) hx hb dX2_settle_54 (by decide) (fun c_54 => ?_) (fun c_54 => ?_)
          · have h_54 := q_eq_f (a := 1) (b := 0) (by omega) (by omega) c_54
            have eq : q_on A B (some cu) kc vi = (Z9.1, Z9.2.1, some (cu + 4), kc, vi + Z9.2.2) := (q_on_c hlt).trans (by rw [hZ])
            have hRL : q_RL (q_on A B (some cu) kc vi) ci u.1 u.2.1 u.2.2 Zx 1 (nI (cu + 4)) := by rw [eq]; exact q_RL_some hci (by rw [hn1]; exact hzA) g5 (by rw [hn2]; exact hzB) g6
            have hP : va_P (dC, dI) vwCl [(g0, .inr (2, [.int x0, .int (nI L), .ref gs, .ref gk, .ref gv, .ref gz, .int (nI ci), .int 1, .int (nI (cu + 4)), .int (nI kc), .int (nI (q_on A B (some cu) kc vi).2.2.2.2), .int x11])), (gs, .inl (cI, 2048, .inl u.1)), (gk, .inl (cI, 2048, .inl u.2.1)), (gv, .inl (cI, 2048, .inl u.2.2)), (gz, .inl (cI, 2, .inl Zx))] H := by rw [eq]; exact hP
            have hD : va_D Aq [(g0, .inr (2, [.int x0, .int (nI L), .ref gs, .ref gk, .ref gv, .ref gz, .int (nI ci), .int 1, .int (nI (cu + 4)), .int (nI kc), .int (nI (q_on A B (some cu) kc vi).2.2.2.2), .int x11])), (gs, .inl (cI, 2048, .inl u.1)), (gk, .inl (cI, 2048, .inl u.2.1)), (gv, .inl (cI, 2048, .inl u.2.2)), (gz, .inl (cI, 2, .inl Zx))] := by rw [eq]; exact hD
            exact W.vret hx hb hr (fun t ht hW => ⟨⟨(ci, (u.1, u.2.1, u.2.2), Zx, 1, nI (cu + 4)), rfl, hRL, by rw [ht]; exact hP, va_K.moved hW.alike hK, hD⟩, hS.F ht⟩) hS.2.2 dX2_settle_81
          · have h_54 := q_eq_t (a := 1) (b := 0) (by omega) (by omega) c_54
            omega
        · have h_25 := q_eq_t (a := 1) (b := 0) (by omega) (by omega) c_25
          omega
      · have e_0_7 : q_b (cu + 4 < B.1) = 0 := q_b_f hlt
        have hP : va_P (dC, dI) vwCl [(g0, .inr (2, [.int x0, .int (nI L), .ref gs, .ref gk, .ref gv, .ref gz, .int (nI ci), .int 0, .int (nI (cu + 4)), .int (nI kc), .int (nI (vi + Z9.2.2)), .int x11])), (gs, .inl (cI, 2048, .inl u.1)), (gk, .inl (cI, 2048, .inl u.2.1)), (gv, .inl (cI, 2048, .inl u.2.2)), (gz, .inl (cI, 2, .inl Zx))] H := by rw [← e_0_7]; exact hP
        have hD : va_D Aq [(g0, .inr (2, [.int x0, .int (nI L), .ref gs, .ref gk, .ref gv, .ref gz, .int (nI ci), .int 0, .int (nI (cu + 4)), .int (nI kc), .int (nI (vi + Z9.2.2)), .int x11])), (gs, .inl (cI, 2048, .inl u.1)), (gk, .inl (cI, 2048, .inl u.2.1)), (gv, .inl (cI, 2048, .inl u.2.2)), (gz, .inl (cI, 2, .inl Zx))] := by rw [← e_0_7]; exact hD
        refine lv_aload_n hx hb dX2_settle_11 rfl (lv_at hl 0 rfl) ?_
        refine va_get (D := (dC, dI)) (ci := 2) (v := .ref gz) (C := RX2) (T := TX2) (N := 12) hx hb hts hin_X2_settle_X2 hown hK hP 0 rfl rfl 5 (by decide) (hts (.fieldLink RX2 19 "StepMapModel" "sizes" "[I") (by decide +kernel)) (fun _ h9 => h9) rfl dX2_settle_12 ?_
        refine lv_aload_n hx hb dX2_settle_15 rfl (lv_at hl 0 rfl) ?_
        refine va_get (D := (dC, dI)) (ci := 2) (v := .int (nI ci)) (C := RX2) (T := TX2) (N := 12) hx hb hts hin_X2_settle_X2 hown hK hP 0 rfl rfl 6 (by decide) (hts (.fieldLink RX2 43 "StepMapModel" "current" "I") (by decide +kernel)) (fun _ h9 => h9) rfl dX2_settle_16 ?_
        refine r_ld (i := ci) hx hb hK hP 4 0 rfl rfl (by omega) (by omega) dX2_settle_19 ?_
        refine r_eq (z := nI A.1) (hzA) ?_
        refine lv_istore_n (lv' := [(1, .int (nI A.1)), (0, .ref g0)]) hx hb dX2_settle_20 rfl hl (by decide) rfl (fun ls hl => ?_)
        refine lv_aload_n hx hb dX2_settle_21 rfl (lv_at hl 1 rfl) ?_
        refine va_get (D := (dC, dI)) (ci := 2) (v := .int 0) (C := RX2) (T := TX2) (N := 12) hx hb hts hin_X2_settle_X2 hown hK hP 0 rfl rfl 7 (by decide) (hts (.fieldLink RX2 56 "StepMapModel" "moving" "Z") (by decide +kernel)) (fun _ h9 => h9) rfl dX2_settle_22 ?_
        refine lv_if_ne (tgt := 50) hx hb dX2_settle_25 (by decide) (fun c_25 => ?_) (fun c_25 => ?_)
        · have h_25 := q_eq_f (a := 0) (b := 0) (by omega) (by omega) c_25
          omega
        · have h_25 := q_eq_t (a := 0) (b := 0) (by omega) (by omega) c_25
          refine lv_iconst (v := 4) hx hb dX2_settle_28 (by decide) ?_
          refine lv_aload_n hx hb dX2_settle_29 rfl (lv_at hl 1 rfl) ?_
          refine va_get (D := (dC, dI)) (ci := 2) (v := .int (nI kc)) (C := RX2) (T := TX2) (N := 12) hx hb hts hin_X2_settle_X2 hown hK hP 0 rfl rfl 9 (by decide) (hts (.fieldLink RX2 63 "StepMapModel" "count" "I") (by decide +kernel)) (fun _ h9 => h9) rfl dX2_settle_30 ?_
          refine lv_imul hx hb dX2_settle_33 ?_
          refine r_eq (z := nI (4 * kc)) (pk_mul 4 kc) ?_
          refine lv_iconst (v := 3) hx hb dX2_settle_34 (by decide) ?_
          refine lv_iload_n hx hb dX2_settle_35 rfl (lv_at hl 0 rfl) ?_
          refine lv_imul hx hb dX2_settle_36 ?_
          refine r_eq (z := nI (3 * A.1)) (pk_mul 3 A.1) ?_
          refine lv_icmp_lt (tgt := 50) hx hb dX2_settle_37 (by decide) (fun c_37 => ?_) (fun c_37 => ?_)
          · have h_37 := q_lt_t (a := 4 * kc) (b := 3 * A.1) (by omega) (by omega) c_37
            refine lv_aload_n hx hb dX2_settle_50 rfl (lv_at hl 1 rfl) ?_
            refine va_get (D := (dC, dI)) (ci := 2) (v := .int 0) (C := RX2) (T := TX2) (N := 12) hx hb hts hin_X2_settle_X2 hown hK hP 0 rfl rfl 7 (by decide) (hts (.fieldLink RX2 56 "StepMapModel" "moving" "Z") (by decide +kernel)) (fun _ h9 => h9) rfl dX2_settle_51 ?_
            refine lv_if_ne (tgt := 81) hx hb dX2_settle_54 (by decide) (fun c_54 => ?_) (fun c_54 => ?_)
            · have h_54 := q_eq_f (a := 0) (b := 0) (by omega) (by omega) c_54
              omega
            · have h_54 := q_eq_t (a := 0) (b := 0) (by omega) (by omega) c_54
              refine lv_iload_n hx hb dX2_settle_57 rfl (lv_at hl 0 rfl) ?_
              refine lv_bipush (v := 8) hx hb dX2_settle_58 (by decide) ?_
              refine lv_icmp_le (tgt := 81) hx hb dX2_settle_60 (by decide) (fun c_60 => ?_) (fun c_60 => ?_)
              · have h_60 := q_le_t (a := A.1) (b := 8) (by omega) (by omega) c_60
                have eq : q_on A B (some cu) kc vi = (Z9.1, Z9.2.1, none, kc, (vi + Z9.2.2)) := (show q_on A B (some cu) kc vi = q_set0 Z9.1 Z9.2.1 kc (vi + Z9.2.2) by rw [q_on_e hlt, hZ]).trans (q_set0_3 (by omega) (by omega))
                have hRL : q_RL (q_on A B (some cu) kc vi) ci u.1 u.2.1 u.2.2 Zx 0 (nI (cu + 4)) := by rw [eq]; exact q_RL_none hci (by rw [hn1]; exact hzA) g5
                have hP : va_P (dC, dI) vwCl [(g0, .inr (2, [.int x0, .int (nI L), .ref gs, .ref gk, .ref gv, .ref gz, .int (nI ci), .int 0, .int (nI (cu + 4)), .int (nI kc), .int (nI (q_on A B (some cu) kc vi).2.2.2.2), .int x11])), (gs, .inl (cI, 2048, .inl u.1)), (gk, .inl (cI, 2048, .inl u.2.1)), (gv, .inl (cI, 2048, .inl u.2.2)), (gz, .inl (cI, 2, .inl Zx))] H := by rw [eq]; exact hP
                have hD : va_D Aq [(g0, .inr (2, [.int x0, .int (nI L), .ref gs, .ref gk, .ref gv, .ref gz, .int (nI ci), .int 0, .int (nI (cu + 4)), .int (nI kc), .int (nI (q_on A B (some cu) kc vi).2.2.2.2), .int x11])), (gs, .inl (cI, 2048, .inl u.1)), (gk, .inl (cI, 2048, .inl u.2.1)), (gv, .inl (cI, 2048, .inl u.2.2)), (gz, .inl (cI, 2, .inl Zx))] := by rw [eq]; exact hD
                exact W.vret hx hb hr (fun t ht hW => ⟨⟨(ci, (u.1, u.2.1, u.2.2), Zx, 0, nI (cu + 4)), rfl, hRL, by rw [ht]; exact hP, va_K.moved hW.alike hK, hD⟩, hS.F ht⟩) hS.2.2 dX2_settle_81
              · have h_60 := q_le_f (a := A.1) (b := 8) (by omega) (by omega) c_60
                refine lv_bipush (v := 8) hx hb dX2_settle_63 (by decide) ?_
                refine lv_aload_n hx hb dX2_settle_65 rfl (lv_at hl 1 rfl) ?_
                refine va_get (D := (dC, dI)) (ci := 2) (v := .int (nI kc)) (C := RX2) (T := TX2) (N := 12) hx hb hts hin_X2_settle_X2 hown hK hP 0 rfl rfl 9 (by decide) (hts (.fieldLink RX2 63 "StepMapModel" "count" "I") (by decide +kernel)) (fun _ h9 => h9) rfl dX2_settle_66 ?_
                refine lv_imul hx hb dX2_settle_69 ?_
                refine r_eq (z := nI (8 * kc)) (pk_mul 8 kc) ?_
                refine lv_iload_n hx hb dX2_settle_70 rfl (lv_at hl 0 rfl) ?_
                refine lv_icmp_gt (tgt := 81) hx hb dX2_settle_71 (by decide) (fun c_71 => ?_) (fun c_71 => ?_)
                · have h_71 := q_lt_t (a := A.1) (b := 8 * kc) (by omega) (by omega) c_71
                  have eq : q_on A B (some cu) kc vi = (Z9.1, Z9.2.1, none, kc, (vi + Z9.2.2)) := (show q_on A B (some cu) kc vi = q_set0 Z9.1 Z9.2.1 kc (vi + Z9.2.2) by rw [q_on_e hlt, hZ]).trans (q_set0_3 (by omega) (by omega))
                  have hRL : q_RL (q_on A B (some cu) kc vi) ci u.1 u.2.1 u.2.2 Zx 0 (nI (cu + 4)) := by rw [eq]; exact q_RL_none hci (by rw [hn1]; exact hzA) g5
                  have hP : va_P (dC, dI) vwCl [(g0, .inr (2, [.int x0, .int (nI L), .ref gs, .ref gk, .ref gv, .ref gz, .int (nI ci), .int 0, .int (nI (cu + 4)), .int (nI kc), .int (nI (q_on A B (some cu) kc vi).2.2.2.2), .int x11])), (gs, .inl (cI, 2048, .inl u.1)), (gk, .inl (cI, 2048, .inl u.2.1)), (gv, .inl (cI, 2048, .inl u.2.2)), (gz, .inl (cI, 2, .inl Zx))] H := by rw [eq]; exact hP
                  have hD : va_D Aq [(g0, .inr (2, [.int x0, .int (nI L), .ref gs, .ref gk, .ref gv, .ref gz, .int (nI ci), .int 0, .int (nI (cu + 4)), .int (nI kc), .int (nI (q_on A B (some cu) kc vi).2.2.2.2), .int x11])), (gs, .inl (cI, 2048, .inl u.1)), (gk, .inl (cI, 2048, .inl u.2.1)), (gv, .inl (cI, 2048, .inl u.2.2)), (gz, .inl (cI, 2, .inl Zx))] := by rw [eq]; exact hD
                  exact W.vret hx hb hr (fun t ht hW => ⟨⟨(ci, (u.1, u.2.1, u.2.2), Zx, 0, nI (cu + 4)), rfl, hRL, by rw [ht]; exact hP, va_K.moved hW.alike hK, hD⟩, hS.F ht⟩) hS.2.2 dX2_settle_81
                · have h_71 := q_lt_f (a := A.1) (b := 8 * kc) (by omega) (by omega) c_71
                  refine lv_aload_n hx hb dX2_settle_74 rfl (lv_at hl 1 rfl) ?_
                  refine lv_iload_n hx hb dX2_settle_75 rfl (lv_at hl 0 rfl) ?_
                  refine lv_iconst (v := 2) hx hb dX2_settle_76 (by decide) ?_
                  refine lv_idiv hx hb dX2_settle_77 (by decide) ?_
                  refine r_eq (z := nI (A.1 / 2)) (pk_div (d := 2) (by omega) (by omega) (by omega)) ?_
                  refine r_muV (wr := []) (rest := []) S0 (c_X2_become l dC dI cI g0 gs gk gv gz L u.1 u.2.1 u.2.2 Zx x0 0 (nI (cu + 4)) (nI kc) (nI (vi + Z9.2.2)) x11 ci (A.1 / 2) H.size hci (by omega)) (cwV 1 hts gX2_settle_X2_become rfl rfl rfl (by decide +kernel) ⟨Nat.le_of_ble_eq_true rfl, Nat.le_of_ble_eq_true rfl⟩) hK hP hD hS hA [0, 1, 2, 3, 4] [] rfl rfl (by decide) (by decide) (by decide) (ci := 2) (q0 := 0) rfl rfl rfl rfl hl.1 rfl (Nat.le_of_ble_eq_true rfl) dX2_settle_78 ⟨Nat.zero_le _, Nat.zero_le _⟩ (fun _ H locs hu hP hD hS => ?_)
                  have hP : va_P (dC, dI) vwCl [(g0, .inr (2, [.int x0, .int (nI L), .ref gs, .ref gk, .ref gv, .ref gz, .int (nI (1 - ci)), .int 1, .int (nI 0), .int (nI kc), .int (nI (vi + Z9.2.2)), .int x11])), (gs, .inl (cI, 2048, .inl (q_clr u.1 (1024 * (1 - ci)) (A.1 / 2)))), (gk, .inl (cI, 2048, .inl u.2.1)), (gv, .inl (cI, 2048, .inl u.2.2)), (gz, .inl (cI, 2, .inl (upd Zx (1 - ci) (nI (A.1 / 2)))))] H := hP.sub [0, 1, 2, 3, 4] rfl
                  have hD : va_D Aq [(g0, .inr (2, [.int x0, .int (nI L), .ref gs, .ref gk, .ref gv, .ref gz, .int (nI (1 - ci)), .int 1, .int (nI 0), .int (nI kc), .int (nI (vi + Z9.2.2)), .int x11])), (gs, .inl (cI, 2048, .inl (q_clr u.1 (1024 * (1 - ci)) (A.1 / 2)))), (gk, .inl (cI, 2048, .inl u.2.1)), (gv, .inl (cI, 2048, .inl u.2.2)), (gz, .inl (cI, 2, .inl (upd Zx (1 - ci) (nI (A.1 / 2)))))] := hD.sub [0, 1, 2, 3, 4] (by decide) rfl
                  have eq : q_on A B (some cu) kc vi = q_start Z9.1 Z9.2.1 (Z9.1.1 / 2) kc (vi + Z9.2.2) := (show q_on A B (some cu) kc vi = q_set0 Z9.1 Z9.2.1 kc (vi + Z9.2.2) by rw [q_on_e hlt, hZ]).trans (q_set0_2 (by omega) (by omega))
                  have hz9 : Zx ci = nI Z9.1.1 := by rw [hn1]; exact hzA
                  have h9 := q_RL_start (Z := Zx) (B := Z9.2.1) (kc := kc) (w := vi + Z9.2.2) (q := A.1 / 2) hci hz9 g5 (by omega) (by omega)
                  have hRL : q_RL (q_on A B (some cu) kc vi) (1 - ci) (q_clr u.1 (1024 * (1 - ci)) (A.1 / 2)) u.2.1 u.2.2 (upd Zx (1 - ci) (nI (A.1 / 2))) 1 (nI 0) := by rw [eq, hn1]; exact h9
                  have hP : va_P (dC, dI) vwCl [(g0, .inr (2, [.int x0, .int (nI L), .ref gs, .ref gk, .ref gv, .ref gz, .int (nI (1 - ci)), .int 1, .int (nI 0), .int (nI kc), .int (nI (q_on A B (some cu) kc vi).2.2.2.2), .int x11])), (gs, .inl (cI, 2048, .inl (q_clr u.1 (1024 * (1 - ci)) (A.1 / 2)))), (gk, .inl (cI, 2048, .inl u.2.1)), (gv, .inl (cI, 2048, .inl u.2.2)), (gz, .inl (cI, 2, .inl (upd Zx (1 - ci) (nI (A.1 / 2)))))] H := by rw [eq]; exact hP
                  have hD : va_D Aq [(g0, .inr (2, [.int x0, .int (nI L), .ref gs, .ref gk, .ref gv, .ref gz, .int (nI (1 - ci)), .int 1, .int (nI 0), .int (nI kc), .int (nI (q_on A B (some cu) kc vi).2.2.2.2), .int x11])), (gs, .inl (cI, 2048, .inl (q_clr u.1 (1024 * (1 - ci)) (A.1 / 2)))), (gk, .inl (cI, 2048, .inl u.2.1)), (gv, .inl (cI, 2048, .inl u.2.2)), (gz, .inl (cI, 2, .inl (upd Zx (1 - ci) (nI (A.1 / 2)))))] := by rw [eq]; exact hD
                  exact W.vret hx hb hr (fun t ht hW => ⟨⟨(1 - ci, (q_clr u.1 (1024 * (1 - ci)) (A.1 / 2), u.2.1, u.2.2), upd Zx (1 - ci) (nI (A.1 / 2)), 1, nI 0), rfl, hRL, by rw [ht]; exact hP, va_K.moved hW.alike hK, hD⟩, hS.F ht⟩) hS.2.2 dX2_settle_81
          · have h_37 := q_lt_f (a := 4 * kc) (b := 3 * A.1) (by omega) (by omega) c_37
            refine lv_aload_n hx hb dX2_settle_40 rfl (lv_at hl 1 rfl) ?_
            refine lv_iconst (v := 2) hx hb dX2_settle_41 (by decide) ?_
            refine lv_iload_n hx hb dX2_settle_42 rfl (lv_at hl 0 rfl) ?_
            refine lv_imul hx hb dX2_settle_43 ?_
            refine r_eq (z := nI (2 * A.1)) (pk_mul 2 A.1) ?_
            refine r_muV (wr := []) (rest := []) S0 (c_X2_become l dC dI cI g0 gs gk gv gz L u.1 u.2.1 u.2.2 Zx x0 0 (nI (cu + 4)) (nI kc) (nI (vi + Z9.2.2)) x11 ci (2 * A.1) H.size hci (by omega)) (cwV 1 hts gX2_settle_X2_become rfl rfl rfl (by decide +kernel) ⟨Nat.le_of_ble_eq_true rfl, Nat.le_of_ble_eq_true rfl⟩) hK hP hD hS hA [0, 1, 2, 3, 4] [] rfl rfl (by decide) (by decide) (by decide) (ci := 2) (q0 := 0) rfl rfl rfl rfl hl.1 rfl (Nat.le_of_ble_eq_true rfl) dX2_settle_44 ⟨Nat.zero_le _, Nat.zero_le _⟩ (fun _ H locs hu hP hD hS => ?_)
            have hP : va_P (dC, dI) vwCl [(g0, .inr (2, [.int x0, .int (nI L), .ref gs, .ref gk, .ref gv, .ref gz, .int (nI (1 - ci)), .int 1, .int (nI 0), .int (nI kc), .int (nI (vi + Z9.2.2)), .int x11])), (gs, .inl (cI, 2048, .inl (q_clr u.1 (1024 * (1 - ci)) (2 * A.1)))), (gk, .inl (cI, 2048, .inl u.2.1)), (gv, .inl (cI, 2048, .inl u.2.2)), (gz, .inl (cI, 2, .inl (upd Zx (1 - ci) (nI (2 * A.1)))))] H := hP.sub [0, 1, 2, 3, 4] rfl
            have hD : va_D Aq [(g0, .inr (2, [.int x0, .int (nI L), .ref gs, .ref gk, .ref gv, .ref gz, .int (nI (1 - ci)), .int 1, .int (nI 0), .int (nI kc), .int (nI (vi + Z9.2.2)), .int x11])), (gs, .inl (cI, 2048, .inl (q_clr u.1 (1024 * (1 - ci)) (2 * A.1)))), (gk, .inl (cI, 2048, .inl u.2.1)), (gv, .inl (cI, 2048, .inl u.2.2)), (gz, .inl (cI, 2, .inl (upd Zx (1 - ci) (nI (2 * A.1)))))] := hD.sub [0, 1, 2, 3, 4] (by decide) rfl
            refine lv_goto (tgt := 81) hx hb dX2_settle_47 (by decide) ?_
            have eq : q_on A B (some cu) kc vi = q_start Z9.1 Z9.2.1 (2 * Z9.1.1) kc (vi + Z9.2.2) := (show q_on A B (some cu) kc vi = q_set0 Z9.1 Z9.2.1 kc (vi + Z9.2.2) by rw [q_on_e hlt, hZ]).trans (q_set0_1 (by omega))
            have hz9 : Zx ci = nI Z9.1.1 := by rw [hn1]; exact hzA
            have h9 := q_RL_start (Z := Zx) (B := Z9.2.1) (kc := kc) (w := vi + Z9.2.2) (q := 2 * A.1) hci hz9 g5 (by omega) (by omega)
            have hRL : q_RL (q_on A B (some cu) kc vi) (1 - ci) (q_clr u.1 (1024 * (1 - ci)) (2 * A.1)) u.2.1 u.2.2 (upd Zx (1 - ci) (nI (2 * A.1))) 1 (nI 0) := by rw [eq, hn1]; exact h9
            have hP : va_P (dC, dI) vwCl [(g0, .inr (2, [.int x0, .int (nI L), .ref gs, .ref gk, .ref gv, .ref gz, .int (nI (1 - ci)), .int 1, .int (nI 0), .int (nI kc), .int (nI (q_on A B (some cu) kc vi).2.2.2.2), .int x11])), (gs, .inl (cI, 2048, .inl (q_clr u.1 (1024 * (1 - ci)) (2 * A.1)))), (gk, .inl (cI, 2048, .inl u.2.1)), (gv, .inl (cI, 2048, .inl u.2.2)), (gz, .inl (cI, 2, .inl (upd Zx (1 - ci) (nI (2 * A.1)))))] H := by rw [eq]; exact hP
            have hD : va_D Aq [(g0, .inr (2, [.int x0, .int (nI L), .ref gs, .ref gk, .ref gv, .ref gz, .int (nI (1 - ci)), .int 1, .int (nI 0), .int (nI kc), .int (nI (q_on A B (some cu) kc vi).2.2.2.2), .int x11])), (gs, .inl (cI, 2048, .inl (q_clr u.1 (1024 * (1 - ci)) (2 * A.1)))), (gk, .inl (cI, 2048, .inl u.2.1)), (gv, .inl (cI, 2048, .inl u.2.2)), (gz, .inl (cI, 2, .inl (upd Zx (1 - ci) (nI (2 * A.1)))))] := by rw [eq]; exact hD
            exact W.vret hx hb hr (fun t ht hW => ⟨⟨(1 - ci, (q_clr u.1 (1024 * (1 - ci)) (2 * A.1), u.2.1, u.2.2), upd Zx (1 - ci) (nI (2 * A.1)), 1, nI 0), rfl, hRL, by rw [ht]; exact hP, va_K.moved hW.alike hK, hD⟩, hS.F ht⟩) hS.2.2 dX2_settle_81
