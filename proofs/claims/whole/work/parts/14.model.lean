/-! MODEL: the reference, what only reads, look, lay (laid by gen_model.py) -/
theorem hin_X2_home_X2 : ∀ w ∈ wsX20, w ∈ wsX2_home := by decide +kernel
theorem hin_X2_behind_X2 : ∀ w ∈ wsX20, w ∈ wsX2_behind := by decide +kernel
theorem hin_X2_look_X2 : ∀ w ∈ wsX20, w ∈ wsX2_look := by decide +kernel
theorem hin_X2_lay_X2 : ∀ w ∈ wsX20, w ∈ wsX2_lay := by decide +kernel
theorem hin_X2_isFull_X2 : ∀ w ∈ wsX20, w ∈ wsX2_isFull := by decide +kernel
theorem hin_X2_steps_X2 : ∀ w ∈ wsX20, w ∈ wsX2_steps := by decide +kernel
set_option maxHeartbeats 4000000 in
set_option maxRecDepth 100000 in
theorem c_X2_at (l : Launch) (dC : Nat → ClassId) (dI : Nat → Nat → Nat) (cI : ClassId) (g0 gs gk gv gz L : Nat) (Sx Kx Vx Zx : Nat → Int32) (x0 x6 x7 x8 x9 x10 x11 : Int32) (ti i : Nat)  : Met l yX2_at wsX2_at ({ frames := 0, cells := 0, slots := 0, locals := 0 }) (r_Pc (dC, dI) vwCl [(cI, .int)] [(g0, .inr (2, [.int x0, .int (nI L), .ref gs, .ref gk, .ref gv, .ref gz, .int x6, .int x7, .int x8, .int x9, .int x10, .int x11])), (gs, .inl (cI, 2048, .inl Sx)), (gk, .inl (cI, 2048, .inl Kx)), (gv, .inl (cI, 2048, .inl Vx)), (gz, .inl (cI, 2, .inl Zx))] [.ref g0, .int (nI ti), .int (nI i)]) (vp_Si (fun r => r = nI (1024 * ti + i))) 0 0 (fun _ => False) := by
  refine Met.ofW (cc := cX2_at) (maxL := 3) (ret := (some .int)) (by decide) rfl ?_
  intro p e s m args below meth c s₁ Bd hml hv
  obtain ⟨rfl, hP, hK⟩ := hv
  have hx := Bd.exec
  have hb := Bd.bytes
  have hr := Bd.returns
  have hts := atoms_spec (ws := wsX2_at) Bd.pre
  have hown : s.vm.findClass RX2 = some m.cls := findClass_of_methodNamed Bd.named
  have hlocks := Bd.notSynchronized
  have S0 : CallFix p m c cX2_at 3 s _ wsX2_at RX2 := ⟨hx, hb, hml, hown, hts⟩
  have hP : va_P (dC, dI) vwCl [(g0, .inr (2, [.int x0, .int (nI L), .ref gs, .ref gk, .ref gv, .ref gz, .int x6, .int x7, .int x8, .int x9, .int x10, .int x11])), (gs, .inl (cI, 2048, .inl Sx)), (gk, .inl (cI, 2048, .inl Kx)), (gv, .inl (cI, 2048, .inl Vx)), (gz, .inl (cI, 2, .inl Zx))] s.heap := hP
  have hl := lv_entry ([.ref g0, .int (nI ti), .int (nI i)]) (n := 3) (Nat.le_of_ble_eq_true rfl)
  rw [lg_entry_eq]
  generalize (lg_sl ([.ref g0, .int (nI ti), .int (nI i)]) ++ List.replicate (3 - (lg_sl ([.ref g0, .int (nI ti), .int (nI i)])).length) Slot.unset).toArray = ls at hl ⊢
  have hl : lv_has ls 3 [(0, .ref g0), (1, .int (nI ti)), (2, .int (nI i))] := hl
  refine lv_sipush (v := 1024) hx hb dX2_at_0 (by decide) ?_
  refine lv_iload_n hx hb dX2_at_3 rfl (lv_at hl 1 rfl) ?_
  refine lv_imul hx hb dX2_at_4 ?_
  refine r_eq (z := nI (1024 * ti)) (pk_mul 1024 ti) ?_
  refine lv_iload_n hx hb dX2_at_5 rfl (lv_at hl 2 rfl) ?_
  refine lv_iadd hx hb dX2_at_6 ?_
  refine r_eq (z := nI ((1024 * ti) + i)) (nI_add (1024 * ti) i) ?_
  exact W.iret (v := nI ((1024 * ti) + i)) hx hb hr (fun t ht hW => ⟨_, rfl, rfl, ht⟩) (fun _ h => by cases h) dX2_at_7
set_option maxHeartbeats 4000000 in
set_option maxRecDepth 100000 in
theorem c_X2_behind (l : Launch) (dC : Nat → ClassId) (dI : Nat → Nat → Nat) (cI : ClassId) (g0 gs gk gv gz L : Nat) (Sx Kx Vx Zx : Nat → Int32) (x0 x6 x7 x8 x9 x10 x11 : Int32) (i ti n : Nat) (ht : ti < 2) (hz : Zx ti = nI n) (hn : q_pw n) (hi : i < n) : Met l yX2_behind wsX2_behind ({ frames := 0, cells := 0, slots := 0, locals := 0 }) (r_Pc (dC, dI) vwCl [(cI, .int)] [(g0, .inr (2, [.int x0, .int (nI L), .ref gs, .ref gk, .ref gv, .ref gz, .int x6, .int x7, .int x8, .int x9, .int x10, .int x11])), (gs, .inl (cI, 2048, .inl Sx)), (gk, .inl (cI, 2048, .inl Kx)), (gv, .inl (cI, 2048, .inl Vx)), (gz, .inl (cI, 2, .inl Zx))] [.ref g0, .int (nI i), .int (nI ti)]) (vp_Si (fun r => r = nI (q_ad n i 1))) 0 0 (fun _ => False) := by
  refine Met.ofW (cc := cX2_behind) (maxL := 3) (ret := (some .int)) (by decide) rfl ?_
  intro p e s m args below meth c s₁ Bd hml hv
  obtain ⟨rfl, hP, hK⟩ := hv
  have hx := Bd.exec
  have hb := Bd.bytes
  have hr := Bd.returns
  have hts := atoms_spec (ws := wsX2_behind) Bd.pre
  have hown : s.vm.findClass RX2 = some m.cls := findClass_of_methodNamed Bd.named
  have hlocks := Bd.notSynchronized
  have S0 : CallFix p m c cX2_behind 3 s _ wsX2_behind RX2 := ⟨hx, hb, hml, hown, hts⟩
  have hP : va_P (dC, dI) vwCl [(g0, .inr (2, [.int x0, .int (nI L), .ref gs, .ref gk, .ref gv, .ref gz, .int x6, .int x7, .int x8, .int x9, .int x10, .int x11])), (gs, .inl (cI, 2048, .inl Sx)), (gk, .inl (cI, 2048, .inl Kx)), (gv, .inl (cI, 2048, .inl Vx)), (gz, .inl (cI, 2, .inl Zx))] s.heap := hP
  have hl := lv_entry ([.ref g0, .int (nI i), .int (nI ti)]) (n := 3) (Nat.le_of_ble_eq_true rfl)
  rw [lg_entry_eq]
  generalize (lg_sl ([.ref g0, .int (nI i), .int (nI ti)]) ++ List.replicate (3 - (lg_sl ([.ref g0, .int (nI i), .int (nI ti)])).length) Slot.unset).toArray = ls at hl ⊢
  have hl : lv_has ls 3 [(0, .ref g0), (1, .int (nI i)), (2, .int (nI ti))] := hl
  have hn8 := q_pw_8 hn
  refine lv_iload_n hx hb dX2_behind_0 rfl (lv_at hl 1 rfl) ?_
  refine lv_iconst (v := 1) hx hb dX2_behind_1 (by decide) ?_
  refine lv_iadd hx hb dX2_behind_2 ?_
  refine lv_aload_n hx hb dX2_behind_3 rfl (lv_at hl 0 rfl) ?_
  refine va_get (D := (dC, dI)) (ci := 2) (v := .ref gz) (C := RX2) (T := TX2) (N := 12) hx hb hts hin_X2_behind_X2 hown hK hP 0 rfl rfl 5 (by decide) (hts (.fieldLink RX2 19 "StepMapModel" "sizes" "[I") (by decide +kernel)) (fun _ h9 => h9) rfl dX2_behind_4 ?_
  refine lv_iload_n hx hb dX2_behind_7 rfl (lv_at hl 2 rfl) ?_
  refine r_ld (i := ti) hx hb hK hP 4 0 rfl rfl (by omega) (by omega) dX2_behind_8 ?_
  refine r_eq (z := nI n) (hz) ?_
  refine lv_irem hx hb dX2_behind_9 (nI_ne0 (by omega) (by omega)) ?_
  exact W.iret (v := ((nI i) + 1) - ((nI i) + 1) / (nI n) * (nI n)) hx hb hr (fun t ht hW => ⟨_, rfl, q_behind_eq hn hi, ht⟩) (fun _ h => by cases h) dX2_behind_10
set_option maxHeartbeats 4000000 in
set_option maxRecDepth 100000 in
theorem c_X2_home (l : Launch) (dC : Nat → ClassId) (dI : Nat → Nat → Nat) (cI : ClassId) (g0 gs gk gv gz L : Nat) (Sx Kx Vx Zx : Nat → Int32) (x0 x6 x7 x8 x9 x10 x11 : Int32) (k : Int32) (ti n : Nat) (ht : ti < 2) (hz : Zx ti = nI n) (hn : q_pw n) : Met l yX2_home wsX2_home ({ frames := 0, cells := 0, slots := 0, locals := 0 }) (r_Pc (dC, dI) vwCl [(cI, .int)] [(g0, .inr (2, [.int x0, .int (nI L), .ref gs, .ref gk, .ref gv, .ref gz, .int x6, .int x7, .int x8, .int x9, .int x10, .int x11])), (gs, .inl (cI, 2048, .inl Sx)), (gk, .inl (cI, 2048, .inl Kx)), (gv, .inl (cI, 2048, .inl Vx)), (gz, .inl (cI, 2, .inl Zx))] [.ref g0, .int k, .int (nI ti)]) (vp_Si (fun r => r = nI (q_hm n k))) 0 0 (fun _ => False) := by
  refine Met.ofW (cc := cX2_home) (maxL := 5) (ret := (some .int)) (by decide) rfl ?_
  intro p e s m args below meth c s₁ Bd hml hv
  obtain ⟨rfl, hP, hK⟩ := hv
  have hx := Bd.exec
  have hb := Bd.bytes
  have hr := Bd.returns
  have hts := atoms_spec (ws := wsX2_home) Bd.pre
  have hown : s.vm.findClass RX2 = some m.cls := findClass_of_methodNamed Bd.named
  have hlocks := Bd.notSynchronized
  have S0 : CallFix p m c cX2_home 5 s _ wsX2_home RX2 := ⟨hx, hb, hml, hown, hts⟩
  have hP : va_P (dC, dI) vwCl [(g0, .inr (2, [.int x0, .int (nI L), .ref gs, .ref gk, .ref gv, .ref gz, .int x6, .int x7, .int x8, .int x9, .int x10, .int x11])), (gs, .inl (cI, 2048, .inl Sx)), (gk, .inl (cI, 2048, .inl Kx)), (gv, .inl (cI, 2048, .inl Vx)), (gz, .inl (cI, 2, .inl Zx))] s.heap := hP
  have hl := lv_entry ([.ref g0, .int k, .int (nI ti)]) (n := 5) (Nat.le_of_ble_eq_true rfl)
  rw [lg_entry_eq]
  generalize (lg_sl ([.ref g0, .int k, .int (nI ti)]) ++ List.replicate (5 - (lg_sl ([.ref g0, .int k, .int (nI ti)])).length) Slot.unset).toArray = ls at hl ⊢
  have hl : lv_has ls 5 [(0, .ref g0), (1, .int k), (2, .int (nI ti))] := hl
  have hn8 := q_pw_8 hn
  refine lv_iload_n hx hb dX2_home_0 rfl (lv_at hl 1 rfl) ?_
  refine lv_ldc (v := -1640531535) hx hb hown (hts (.constant RX2 29 (-1640531535)) (by decide +kernel)) dX2_home_1 ?_
  refine lv_imul hx hb dX2_home_3 ?_
  refine lv_istore_n (lv' := [(3, .int (k * (-1640531535))), (0, .ref g0), (1, .int k), (2, .int (nI ti))]) hx hb dX2_home_4 rfl hl (by decide) rfl (fun ls hl => ?_)
  refine lv_iload_n hx hb dX2_home_5 rfl (lv_at hl 0 rfl) ?_
  refine lv_iload_n hx hb dX2_home_6 rfl (lv_at hl 0 rfl) ?_
  refine lv_bipush (v := 15) hx hb dX2_home_7 (by decide) ?_
  refine lv_iushr (v := ((k * (-1640531535)).toUInt32 >>> ((15 : Int32).toUInt32 &&& Int32.toUInt32 31)).toInt32) hx hb dX2_home_9 rfl ?_
  refine lv_ixor hx hb dX2_home_10 ?_
  refine lv_istore_n (lv' := [(3, .int ((k * (-1640531535)) ^^^ (((k * (-1640531535)).toUInt32 >>> ((15 : Int32).toUInt32 &&& Int32.toUInt32 31)).toInt32))), (0, .ref g0), (1, .int k), (2, .int (nI ti))]) hx hb dX2_home_11 rfl hl (by decide) rfl (fun ls hl => ?_)
  refine lv_iload_n hx hb dX2_home_12 rfl (lv_at hl 0 rfl) ?_
  refine lv_aload_n hx hb dX2_home_13 rfl (lv_at hl 1 rfl) ?_
  refine va_get (D := (dC, dI)) (ci := 2) (v := .ref gz) (C := RX2) (T := TX2) (N := 12) hx hb hts hin_X2_home_X2 hown hK hP 0 rfl rfl 5 (by decide) (hts (.fieldLink RX2 19 "StepMapModel" "sizes" "[I") (by decide +kernel)) (fun _ h9 => h9) rfl dX2_home_14 ?_
  refine lv_iload_n hx hb dX2_home_17 rfl (lv_at hl 3 rfl) ?_
  refine r_ld (i := ti) hx hb hK hP 4 0 rfl rfl (by omega) (by omega) dX2_home_18 ?_
  refine r_eq (z := nI n) (hz) ?_
  refine lv_irem hx hb dX2_home_19 (nI_ne0 (by omega) (by omega)) ?_
  refine lv_topi (fun rr err => ?_)
  have err : rr = q_hsh k - q_hsh k / nI n * nI n := err
  rcases q_rem_c hn (q_hsh k) with ⟨r1, r2⟩ | ⟨r1, r2⟩
  · rw [← err] at r1 r2
    refine lv_istore (lv' := [(4, .int rr), (3, .int ((k * (-1640531535)) ^^^ (((k * (-1640531535)).toUInt32 >>> ((15 : Int32).toUInt32 &&& Int32.toUInt32 31)).toInt32))), (0, .ref g0), (1, .int k), (2, .int (nI ti))]) hx hb dX2_home_20 hl (by decide) rfl (fun ls hl => ?_)
    refine lv_iload hx hb dX2_home_22 (lv_at hl 0 rfl) ?_
    refine lv_if_ge (tgt := 39) hx hb dX2_home_24 (by decide) (fun c_24 => ?_) (fun c_24 => ?_)
    · exact absurd c_24 (q_nge r1)
    · refine lv_iload hx hb dX2_home_27 (lv_at hl 0 rfl) ?_
      refine lv_aload_n hx hb dX2_home_29 rfl (lv_at hl 2 rfl) ?_
      refine va_get (D := (dC, dI)) (ci := 2) (v := .ref gz) (C := RX2) (T := TX2) (N := 12) hx hb hts hin_X2_home_X2 hown hK hP 0 rfl rfl 5 (by decide) (hts (.fieldLink RX2 19 "StepMapModel" "sizes" "[I") (by decide +kernel)) (fun _ h9 => h9) rfl dX2_home_30 ?_
      refine lv_iload_n hx hb dX2_home_33 rfl (lv_at hl 4 rfl) ?_
      refine r_ld (i := ti) hx hb hK hP 4 0 rfl rfl (by omega) (by omega) dX2_home_34 ?_
      refine r_eq (z := nI n) (hz) ?_
      refine lv_iadd hx hb dX2_home_35 ?_
      refine lv_goto (tgt := 41) hx hb dX2_home_36 (by decide) ?_
      exact W.iret (v := rr + (nI n)) hx hb hr (fun t ht hW => ⟨_, rfl, r2, ht⟩) (fun _ h => by cases h) dX2_home_41
  · rw [← err] at r1 r2
    refine lv_istore (lv' := [(4, .int rr), (3, .int ((k * (-1640531535)) ^^^ (((k * (-1640531535)).toUInt32 >>> ((15 : Int32).toUInt32 &&& Int32.toUInt32 31)).toInt32))), (0, .ref g0), (1, .int k), (2, .int (nI ti))]) hx hb dX2_home_20 hl (by decide) rfl (fun ls hl => ?_)
    refine lv_iload hx hb dX2_home_22 (lv_at hl 0 rfl) ?_
    refine lv_if_ge (tgt := 39) hx hb dX2_home_24 (by decide) (fun c_24 => ?_) (fun c_24 => ?_)
    · refine lv_iload hx hb dX2_home_39 (lv_at hl 0 rfl) ?_
      exact W.iret (v := rr) hx hb hr (fun t ht hW => ⟨_, rfl, r2, ht⟩) (fun _ h => by cases h) dX2_home_41
    · exact absurd (q_ge0 r1) c_24
set_option maxHeartbeats 4000000 in
set_option maxRecDepth 100000 in
theorem lp_X2_steps {p : Program} {l : Launch} {e : Env} {s : State} {m : MethodId} {args : Array Value} {below : List Frame} {meth : Method} {c : Code} {Q : State → Prop} {dC : Nat → ClassId} {dI : Nat → Nat → Nat} {cI : ClassId} {Aq : Nat → Prop} {H0 : Heap} (S0 : CallFix p m c cX2_steps 5 s args wsX2_steps RX2) (hK : va_K (dC, dI) vwCl [(cI, .int)] s) (hA : ∀ q : Nat, H0.size ≤ q → Aq q) (g0 gs gk gv gz L : Nat) (Sx Kx Vx Zx : Nat → Int32) (x0 x7 x8 x9 x10 x11 : Int32) (ci n b R : Nat) (hci : ci < 2) (hz : Zx ci = nI n) (hn : q_pw n) (hb2 : b < n) (hR9 : R < 4096) {H : Heap} {locs : List Loc} (hP : va_P (dC, dI) vwCl [(g0, .inr (2, [.int x0, .int (nI L), .ref gs, .ref gk, .ref gv, .ref gz, .int (nI ci), .int x7, .int x8, .int x9, .int x10, .int x11])), (gs, .inl (cI, 2048, .inl Sx)), (gk, .inl (cI, 2048, .inl Kx)), (gv, .inl (cI, 2048, .inl Vx)), (gz, .inl (cI, 2, .inl Zx))] H)
    (kk : ∀ (ls : Array Slot), lv_has ls 5 [(3, .int (nI R))] → W p l e ({ frames := 1, cells := 0, slots := 0, locals := 22 }) s m args below meth c H locs 0 0 Q (F0 m 29 ls [])) :
    ∀ (f : Nat) (j i : Nat), i < n ∧ q_rd n i b = f ∧ j + f = R → ∀ (ls : Array Slot), lv_has ls 5 [(0, .ref g0), (2, .int (nI b)), (3, .int (nI j)), (4, .int (nI i))] → W p l e ({ frames := 1, cells := 0, slots := 0, locals := 22 }) s m args below meth c H locs 0 0 Q (F0 m 5 ls []) := by
  obtain ⟨hx, hb, hml, hown, hts⟩ := id S0
  intro f
  induction f with
  | zero =>
    intro j i hi ls hl
    obtain ⟨h1, h2, h3⟩ := hi
    have hn8 := q_pw_8 hn
    refine lv_iload hx hb dX2_steps_5 (lv_at hl 3 rfl) ?_
    refine lv_iload_n hx hb dX2_steps_7 rfl (lv_at hl 1 rfl) ?_
    refine lv_icmp_eq (tgt := 29) hx hb dX2_steps_8 (by decide) (fun c_8 => ?_) (fun c_8 => ?_)
    · have h_8 := q_eq_t (a := i) (b := b) (by omega) (by omega) c_8
      have e1 : j = R := by omega
      subst e1
      exact kk ls (lv_sub hl [2] rfl)
    · have h_8 := q_eq_f (a := i) (b := b) (by omega) (by omega) c_8
      exact absurd (q_rd_z h1 hb2 h2) h_8
  | succ f ih =>
    intro j i hi ls hl
    obtain ⟨h1, h2, h3⟩ := hi
    have hn8 := q_pw_8 hn
    refine lv_iload hx hb dX2_steps_5 (lv_at hl 3 rfl) ?_
    refine lv_iload_n hx hb dX2_steps_7 rfl (lv_at hl 1 rfl) ?_
    refine lv_icmp_eq (tgt := 29) hx hb dX2_steps_8 (by decide) (fun c_8 => ?_) (fun c_8 => ?_)
    · have h_8 := q_eq_t (a := i) (b := b) (by omega) (by omega) c_8
      rw [h_8, q_rd_0] at h2
      omega
    · have h_8 := q_eq_f (a := i) (b := b) (by omega) (by omega) c_8
      refine lv_aload_n hx hb dX2_steps_11 rfl (lv_at hl 0 rfl) ?_
      refine lv_iload hx hb dX2_steps_12 (lv_at hl 3 rfl) ?_
      refine lv_aload_n hx hb dX2_steps_14 rfl (lv_at hl 0 rfl) ?_
      refine va_get (D := (dC, dI)) (ci := 2) (v := .int (nI ci)) (C := RX2) (T := TX2) (N := 12) hx hb hts hin_X2_steps_X2 hown hK hP 0 rfl rfl 6 (by decide) (hts (.fieldLink RX2 43 "StepMapModel" "current" "I") (by decide +kernel)) (fun _ h9 => h9) rfl dX2_steps_15 ?_
      refine r_roV (rest := []) S0 (c_X2_behind l dC dI cI g0 gs gk gv gz L Sx Kx Vx Zx x0 (nI ci) x7 x8 x9 x10 x11 i ci n (by omega) hz hn (by omega)) (cwV 2 hts gX2_steps_X2_behind rfl rfl rfl (by decide +kernel) ⟨Nat.le_of_ble_eq_true rfl, Nat.le_of_ble_eq_true rfl⟩) hK hP [0, 1, 2, 3, 4] rfl (ci := 2) (q0 := 0) rfl rfl rfl rfl hl.1 rfl (Nat.le_of_ble_eq_true rfl) dX2_steps_18 ⟨Nat.zero_le _, Nat.zero_le _⟩ ?_
      refine lv_istore (lv' := [(4, .int (nI (q_ad n i 1))), (0, .ref g0), (2, .int (nI b)), (3, .int (nI j))]) hx hb dX2_steps_21 hl (by decide) rfl (fun ls hl => ?_)
      refine lv_iinc (v := nI (j + 1)) (lv' := [(3, .int (nI (j + 1))), (4, .int (nI (q_ad n i 1))), (0, .ref g0), (2, .int (nI b))]) hx hb dX2_steps_23 hl (k := 3) rfl (nI_1 _) (by decide) rfl (fun ls hl => ?_)
      refine lv_goto (tgt := 5) hx hb dX2_steps_26 (by decide) ?_
      exact ih (j + 1) (q_ad n i 1) ⟨q_ad_lt h1 (by omega), q_rd_next h1 hb2 h2, by omega⟩ ls (lv_sub hl [2, 3, 0, 1] rfl)
set_option maxHeartbeats 4000000 in
set_option maxRecDepth 100000 in
theorem c_X2_steps (l : Launch) (dC : Nat → ClassId) (dI : Nat → Nat → Nat) (cI : ClassId) (g0 gs gk gv gz L : Nat) (Sx Kx Vx Zx : Nat → Int32) (x0 x7 x8 x9 x10 x11 : Int32) (ci n a b : Nat) (hci : ci < 2) (hz : Zx ci = nI n) (hn : q_pw n) (ha : a < n) (hb2 : b < n) : Met l yX2_steps wsX2_steps ({ frames := 1, cells := 0, slots := 0, locals := 22 }) (r_Pc (dC, dI) vwCl [(cI, .int)] [(g0, .inr (2, [.int x0, .int (nI L), .ref gs, .ref gk, .ref gv, .ref gz, .int (nI ci), .int x7, .int x8, .int x9, .int x10, .int x11])), (gs, .inl (cI, 2048, .inl Sx)), (gk, .inl (cI, 2048, .inl Kx)), (gv, .inl (cI, 2048, .inl Vx)), (gz, .inl (cI, 2, .inl Zx))] [.ref g0, .int (nI a), .int (nI b)]) (vp_Si (fun r => r = nI (q_rd n a b))) 0 0 (fun _ => False) := by
  refine Met.ofW (cc := cX2_steps) (maxL := 5) (ret := (some .int)) (by decide) rfl ?_
  intro p e s m args below meth c s₁ Bd hml hv
  obtain ⟨rfl, hP, hK⟩ := hv
  have hx := Bd.exec
  have hb := Bd.bytes
  have hr := Bd.returns
  have hts := atoms_spec (ws := wsX2_steps) Bd.pre
  have hown : s.vm.findClass RX2 = some m.cls := findClass_of_methodNamed Bd.named
  have hlocks := Bd.notSynchronized
  have S0 : CallFix p m c cX2_steps 5 s _ wsX2_steps RX2 := ⟨hx, hb, hml, hown, hts⟩
  have hP : va_P (dC, dI) vwCl [(g0, .inr (2, [.int x0, .int (nI L), .ref gs, .ref gk, .ref gv, .ref gz, .int (nI ci), .int x7, .int x8, .int x9, .int x10, .int x11])), (gs, .inl (cI, 2048, .inl Sx)), (gk, .inl (cI, 2048, .inl Kx)), (gv, .inl (cI, 2048, .inl Vx)), (gz, .inl (cI, 2, .inl Zx))] s.heap := hP
  have hl := lv_entry ([.ref g0, .int (nI a), .int (nI b)]) (n := 5) (Nat.le_of_ble_eq_true rfl)
  rw [lg_entry_eq]
  generalize (lg_sl ([.ref g0, .int (nI a), .int (nI b)]) ++ List.replicate (5 - (lg_sl ([.ref g0, .int (nI a), .int (nI b)])).length) Slot.unset).toArray = ls at hl ⊢
  have hl : lv_has ls 5 [(0, .ref g0), (1, .int (nI a)), (2, .int (nI b))] := hl
  have hn8 := q_pw_8 hn
  refine lv_iconst (v := 0) hx hb dX2_steps_0 (by decide) ?_
  refine lv_istore_n (lv' := [(3, .int 0), (0, .ref g0), (1, .int (nI a)), (2, .int (nI b))]) hx hb dX2_steps_1 rfl hl (by decide) rfl (fun ls hl => ?_)
  refine lv_iload_n hx hb dX2_steps_2 rfl (lv_at hl 2 rfl) ?_
  refine lv_istore (lv' := [(4, .int (nI a)), (3, .int 0), (0, .ref g0), (1, .int (nI a)), (2, .int (nI b))]) hx hb dX2_steps_3 hl (by decide) rfl (fun ls hl => ?_)
  have hr9 := q_rd_lt ha hb2
  refine lp_X2_steps (Aq := fun _ => True) (H0 := s.heap) S0 hK (fun _ _ => trivial) g0 gs gk gv gz L Sx Kx Vx Zx x0 x7 x8 x9 x10 x11 ci n b (q_rd n a b) hci hz hn hb2 (by omega) hP (fun ls hl => ?_) (q_rd n a b) 0 a ⟨ha, rfl, by omega⟩ ls (lv_sub hl [2, 4, 1, 0] rfl)
  refine lv_iload_n hx hb dX2_steps_29 rfl (lv_at hl 0 rfl) ?_
  exact W.iret (v := nI (q_rd n a b)) hx hb hr (fun t ht hW => ⟨_, rfl, rfl, ht⟩) (fun _ h => by cases h) dX2_steps_30
set_option maxHeartbeats 4000000 in
set_option maxRecDepth 100000 in
theorem c_X2_isFull (l : Launch) (dC : Nat → ClassId) (dI : Nat → Nat → Nat) (cI : ClassId) (g0 gs gk gv gz L : Nat) (Sx Kx Vx Zx : Nat → Int32) (x0 x8 x10 x11 : Int32) (ci : Nat) (A B : q_TB) (nx : Option Nat) (kc : Nat) (hci : ci < 2) (hzA : Zx ci = nI A.1) (hA9 : A.1 ≤ 1024) (hB9 : B.1 ≤ 1024) (hL : L ≤ 1024) (hkc : kc ≤ 4096) (hcur : ∀ c, nx = some c → x8 = nI c ∧ Zx (1 - ci) = nI B.1 ∧ c ≤ B.1) : Met l yX2_isFull wsX2_isFull ({ frames := 0, cells := 0, slots := 0, locals := 0 }) (r_Pc (dC, dI) vwCl [(cI, .int)] [(g0, .inr (2, [.int x0, .int (nI L), .ref gs, .ref gk, .ref gv, .ref gz, .int (nI ci), .int (q_b (nx.isSome = true)), .int x8, .int (nI kc), .int x10, .int x11])), (gs, .inl (cI, 2048, .inl Sx)), (gk, .inl (cI, 2048, .inl Kx)), (gv, .inl (cI, 2048, .inl Vx)), (gz, .inl (cI, 2, .inl Zx))] [.ref g0]) (vp_Si (fun r => r = q_b (q_full L A B nx kc))) 0 0 (fun _ => False) := by
  refine Met.ofW (cc := cX2_isFull) (maxL := 2) (ret := (some .boolean)) (by decide) rfl ?_
  intro p e s m args below meth c s₁ Bd hml hv
  obtain ⟨rfl, hP, hK⟩ := hv
  have hx := Bd.exec
  have hb := Bd.bytes
  have hr := Bd.returns
  have hts := atoms_spec (ws := wsX2_isFull) Bd.pre
  have hown : s.vm.findClass RX2 = some m.cls := findClass_of_methodNamed Bd.named
  have hlocks := Bd.notSynchronized
  have S0 : CallFix p m c cX2_isFull 2 s _ wsX2_isFull RX2 := ⟨hx, hb, hml, hown, hts⟩
  have hP : va_P (dC, dI) vwCl [(g0, .inr (2, [.int x0, .int (nI L), .ref gs, .ref gk, .ref gv, .ref gz, .int (nI ci), .int (q_b (nx.isSome = true)), .int x8, .int (nI kc), .int x10, .int x11])), (gs, .inl (cI, 2048, .inl Sx)), (gk, .inl (cI, 2048, .inl Kx)), (gv, .inl (cI, 2048, .inl Vx)), (gz, .inl (cI, 2, .inl Zx))] s.heap := hP
  have hl := lv_entry ([.ref g0]) (n := 2) (Nat.le_of_ble_eq_true rfl)
  rw [lg_entry_eq]
  generalize (lg_sl ([.ref g0]) ++ List.replicate (2 - (lg_sl ([.ref g0])).length) Slot.unset).toArray = ls at hl ⊢
  have hl : lv_has ls 2 [(0, .ref g0)] := hl
  refine lv_aload_n hx hb dX2_isFull_0 rfl (lv_at hl 0 rfl) ?_
  refine va_get (D := (dC, dI)) (ci := 2) (v := .int (q_b (nx.isSome = true))) (C := RX2) (T := TX2) (N := 12) hx hb hts hin_X2_isFull_X2 hown hK hP 0 rfl rfl 7 (by decide) (hts (.fieldLink RX2 56 "StepMapModel" "moving" "Z") (by decide +kernel)) (fun _ h9 => h9) rfl dX2_isFull_1 ?_
  refine lv_if_eq (tgt := 31) hx hb dX2_isFull_4 (by decide) (fun c_4 => ?_) (fun c_4 => ?_)
  · have h_4 : ¬ (nx.isSome = true) := q_b_0.mp c_4
    refine lv_iconst (v := 0) hx hb dX2_isFull_31 (by decide) ?_
    refine lv_istore_n (lv' := [(1, .int 0), (0, .ref g0)]) hx hb dX2_isFull_32 rfl hl (by decide) rfl (fun ls hl => ?_)
    refine lv_iload_n hx hb dX2_isFull_33 rfl (lv_at hl 0 rfl) ?_
    refine lv_if_ne (tgt := 81) hx hb dX2_isFull_34 (by decide) (fun c_34 => ?_) (fun c_34 => ?_)
    · have h_34 := q_eq_f (a := 0) (b := 0) (by omega) (by omega) c_34
      omega
    · have h_34 := q_eq_t (a := 0) (b := 0) (by omega) (by omega) c_34
      refine lv_iconst (v := 4) hx hb dX2_isFull_37 (by decide) ?_
      refine lv_aload_n hx hb dX2_isFull_38 rfl (lv_at hl 1 rfl) ?_
      refine va_get (D := (dC, dI)) (ci := 2) (v := .int (nI kc)) (C := RX2) (T := TX2) (N := 12) hx hb hts hin_X2_isFull_X2 hown hK hP 0 rfl rfl 9 (by decide) (hts (.fieldLink RX2 63 "StepMapModel" "count" "I") (by decide +kernel)) (fun _ h9 => h9) rfl dX2_isFull_39 ?_
      refine lv_imul hx hb dX2_isFull_42 ?_
      refine r_eq (z := nI (4 * kc)) (pk_mul 4 kc) ?_
      refine lv_iconst (v := 4) hx hb dX2_isFull_43 (by decide) ?_
      refine lv_iadd hx hb dX2_isFull_44 ?_
      refine r_eq (z := nI ((4 * kc) + 4)) (nI_add (4 * kc) 4) ?_
      refine lv_iconst (v := 3) hx hb dX2_isFull_45 (by decide) ?_
      refine lv_aload_n hx hb dX2_isFull_46 rfl (lv_at hl 1 rfl) ?_
      refine va_get (D := (dC, dI)) (ci := 2) (v := .ref gz) (C := RX2) (T := TX2) (N := 12) hx hb hts hin_X2_isFull_X2 hown hK hP 0 rfl rfl 5 (by decide) (hts (.fieldLink RX2 19 "StepMapModel" "sizes" "[I") (by decide +kernel)) (fun _ h9 => h9) rfl dX2_isFull_47 ?_
      refine lv_aload_n hx hb dX2_isFull_50 rfl (lv_at hl 1 rfl) ?_
      refine va_get (D := (dC, dI)) (ci := 2) (v := .int (nI ci)) (C := RX2) (T := TX2) (N := 12) hx hb hts hin_X2_isFull_X2 hown hK hP 0 rfl rfl 6 (by decide) (hts (.fieldLink RX2 43 "StepMapModel" "current" "I") (by decide +kernel)) (fun _ h9 => h9) rfl dX2_isFull_51 ?_
      refine r_ld (i := ci) hx hb hK hP 4 0 rfl rfl (by omega) (by omega) dX2_isFull_54 ?_
      refine r_eq (z := nI A.1) (hzA) ?_
      refine lv_imul hx hb dX2_isFull_55 ?_
      refine r_eq (z := nI (3 * A.1)) (pk_mul 3 A.1) ?_
      refine lv_icmp_lt (tgt := 81) hx hb dX2_isFull_56 (by decide) (fun c_56 => ?_) (fun c_56 => ?_)
      · have h_56 := q_lt_t (a := (4 * kc) + 4) (b := 3 * A.1) (by omega) (by omega) c_56
        refine lv_iconst (v := 0) hx hb dX2_isFull_81 (by decide) ?_
        exact W.zret (v := 0) hx hb hr (rfl) (fun t ht hW => ⟨_, rfl, (q_b_f (fun z => by have := z.2.1; omega)).symm, ht⟩) (fun _ h => by cases h) dX2_isFull_82
      · have h_56 := q_lt_f (a := (4 * kc) + 4) (b := 3 * A.1) (by omega) (by omega) c_56
        refine lv_iconst (v := 2) hx hb dX2_isFull_59 (by decide) ?_
        refine lv_aload_n hx hb dX2_isFull_60 rfl (lv_at hl 1 rfl) ?_
        refine va_get (D := (dC, dI)) (ci := 2) (v := .ref gz) (C := RX2) (T := TX2) (N := 12) hx hb hts hin_X2_isFull_X2 hown hK hP 0 rfl rfl 5 (by decide) (hts (.fieldLink RX2 19 "StepMapModel" "sizes" "[I") (by decide +kernel)) (fun _ h9 => h9) rfl dX2_isFull_61 ?_
        refine lv_aload_n hx hb dX2_isFull_64 rfl (lv_at hl 1 rfl) ?_
        refine va_get (D := (dC, dI)) (ci := 2) (v := .int (nI ci)) (C := RX2) (T := TX2) (N := 12) hx hb hts hin_X2_isFull_X2 hown hK hP 0 rfl rfl 6 (by decide) (hts (.fieldLink RX2 43 "StepMapModel" "current" "I") (by decide +kernel)) (fun _ h9 => h9) rfl dX2_isFull_65 ?_
        refine r_ld (i := ci) hx hb hK hP 4 0 rfl rfl (by omega) (by omega) dX2_isFull_68 ?_
        refine r_eq (z := nI A.1) (hzA) ?_
        refine lv_imul hx hb dX2_isFull_69 ?_
        refine r_eq (z := nI (2 * A.1)) (pk_mul 2 A.1) ?_
        refine lv_aload_n hx hb dX2_isFull_70 rfl (lv_at hl 1 rfl) ?_
        refine va_get (D := (dC, dI)) (ci := 2) (v := .int (nI L)) (C := RX2) (T := TX2) (N := 12) hx hb hts hin_X2_isFull_X2 hown hK hP 0 rfl rfl 1 (by decide) (hts (.fieldLink RX2 22 "StepMapModel" "half" "I") (by decide +kernel)) (fun _ h9 => h9) rfl dX2_isFull_71 ?_
        refine lv_icmp_le (tgt := 81) hx hb dX2_isFull_74 (by decide) (fun c_74 => ?_) (fun c_74 => ?_)
        · have h_74 := q_le_t (a := 2 * A.1) (b := L) (by omega) (by omega) c_74
          refine lv_iconst (v := 0) hx hb dX2_isFull_81 (by decide) ?_
          exact W.zret (v := 0) hx hb hr (rfl) (fun t ht hW => ⟨_, rfl, (q_b_f (fun z => by have := z.2.2; omega)).symm, ht⟩) (fun _ h => by cases h) dX2_isFull_82
        · have h_74 := q_le_f (a := 2 * A.1) (b := L) (by omega) (by omega) c_74
          refine lv_iconst (v := 1) hx hb dX2_isFull_77 (by decide) ?_
          refine lv_goto (tgt := 82) hx hb dX2_isFull_78 (by decide) ?_
          exact W.zret (v := 1) hx hb hr (rfl) (fun t ht hW => ⟨_, rfl, (q_b_t ⟨fun y => Exists.elim y fun c z => h_4 (by rw [z.1]; rfl), by omega, by omega⟩).symm, ht⟩) (fun _ h => by cases h) dX2_isFull_82
  · have h_4 : (nx.isSome = true) := q_b_n0 c_4
    obtain ⟨cu, hcc⟩ := Option.isSome_iff_exists.mp h_4
    subst hcc
    obtain ⟨hcr, hzB, hcu⟩ := hcur cu rfl
    refine lv_aload_n hx hb dX2_isFull_7 rfl (lv_at hl 0 rfl) ?_
    refine va_get (D := (dC, dI)) (ci := 2) (v := .ref gz) (C := RX2) (T := TX2) (N := 12) hx hb hts hin_X2_isFull_X2 hown hK hP 0 rfl rfl 5 (by decide) (hts (.fieldLink RX2 19 "StepMapModel" "sizes" "[I") (by decide +kernel)) (fun _ h9 => h9) rfl dX2_isFull_8 ?_
    refine lv_iconst (v := 1) hx hb dX2_isFull_11 (by decide) ?_
    refine lv_aload_n hx hb dX2_isFull_12 rfl (lv_at hl 0 rfl) ?_
    refine va_get (D := (dC, dI)) (ci := 2) (v := .int (nI ci)) (C := RX2) (T := TX2) (N := 12) hx hb hts hin_X2_isFull_X2 hown hK hP 0 rfl rfl 6 (by decide) (hts (.fieldLink RX2 43 "StepMapModel" "current" "I") (by decide +kernel)) (fun _ h9 => h9) rfl dX2_isFull_13 ?_
    refine lv_isub hx hb dX2_isFull_16 ?_
    refine r_eq (z := nI (1 - ci)) (pk_sub (a := 1) (by omega)) ?_
    refine r_ld (i := 1 - ci) hx hb hK hP 4 0 rfl rfl (by omega) (by omega) dX2_isFull_17 ?_
    refine r_eq (z := nI B.1) (hzB) ?_
    refine lv_aload_n hx hb dX2_isFull_18 rfl (lv_at hl 0 rfl) ?_
    refine va_get (D := (dC, dI)) (ci := 2) (v := .int x8) (C := RX2) (T := TX2) (N := 12) hx hb hts hin_X2_isFull_X2 hown hK hP 0 rfl rfl 8 (by decide) (hts (.fieldLink RX2 46 "StepMapModel" "cursor" "I") (by decide +kernel)) (fun _ h9 => h9) rfl dX2_isFull_19 ?_
    refine r_eq (z := nI cu) (hcr) ?_
    refine lv_isub hx hb dX2_isFull_22 ?_
    refine r_eq (z := nI (B.1 - cu)) (pk_sub hcu) ?_
    refine lv_iconst (v := 4) hx hb dX2_isFull_23 (by decide) ?_
    refine lv_icmp_le (tgt := 31) hx hb dX2_isFull_24 (by decide) (fun c_24 => ?_) (fun c_24 => ?_)
    · have h_24 := q_le_t (a := B.1 - cu) (b := 4) (by omega) (by omega) c_24
      refine lv_iconst (v := 0) hx hb dX2_isFull_31 (by decide) ?_
      refine lv_istore_n (lv' := [(1, .int 0), (0, .ref g0)]) hx hb dX2_isFull_32 rfl hl (by decide) rfl (fun ls hl => ?_)
      refine lv_iload_n hx hb dX2_isFull_33 rfl (lv_at hl 0 rfl) ?_
      refine lv_if_ne (tgt := 81) hx hb dX2_isFull_34 (by decide) (fun c_34 => ?_) (fun c_34 => ?_)
      · have h_34 := q_eq_f (a := 0) (b := 0) (by omega) (by omega) c_34
        omega
      · have h_34 := q_eq_t (a := 0) (b := 0) (by omega) (by omega) c_34
        refine lv_iconst (v := 4) hx hb dX2_isFull_37 (by decide) ?_
        refine lv_aload_n hx hb dX2_isFull_38 rfl (lv_at hl 1 rfl) ?_
        refine va_get (D := (dC, dI)) (ci := 2) (v := .int (nI kc)) (C := RX2) (T := TX2) (N := 12) hx hb hts hin_X2_isFull_X2 hown hK hP 0 rfl rfl 9 (by decide) (hts (.fieldLink RX2 63 "StepMapModel" "count" "I") (by decide +kernel)) (fun _ h9 => h9) rfl dX2_isFull_39 ?_
        refine lv_imul hx hb dX2_isFull_42 ?_
        refine r_eq (z := nI (4 * kc)) (pk_mul 4 kc) ?_
        refine lv_iconst (v := 4) hx hb dX2_isFull_43 (by decide) ?_
        refine lv_iadd hx hb dX2_isFull_44 ?_
        refine r_eq (z := nI ((4 * kc) + 4)) (nI_add (4 * kc) 4) ?_
        refine lv_iconst (v := 3) hx hb dX2_isFull_45 (by decide) ?_
        refine lv_aload_n hx hb dX2_isFull_46 rfl (lv_at hl 1 rfl) ?_
        refine va_get (D := (dC, dI)) (ci := 2) (v := .ref gz) (C := RX2) (T := TX2) (N := 12) hx hb hts hin_X2_isFull_X2 hown hK hP 0 rfl rfl 5 (by decide) (hts (.fieldLink RX2 19 "StepMapModel" "sizes" "[I") (by decide +kernel)) (fun _ h9 => h9) rfl dX2_isFull_47 ?_
        refine lv_aload_n hx hb dX2_isFull_50 rfl (lv_at hl 1 rfl) ?_
        refine va_get (D := (dC, dI)) (ci := 2) (v := .int (nI ci)) (C := RX2) (T := TX2) (N := 12) hx hb hts hin_X2_isFull_X2 hown hK hP 0 rfl rfl 6 (by decide) (hts (.fieldLink RX2 43 "StepMapModel" "current" "I") (by decide +kernel)) (fun _ h9 => h9) rfl dX2_isFull_51 ?_
        refine r_ld (i := ci) hx hb hK hP 4 0 rfl rfl (by omega) (by omega) dX2_isFull_54 ?_
        refine r_eq (z := nI A.1) (hzA) ?_
        refine lv_imul hx hb dX2_isFull_55 ?_
        refine r_eq (z := nI (3 * A.1)) (pk_mul 3 A.1) ?_
        refine lv_icmp_lt (tgt := 81) hx hb dX2_isFull_56 (by decide) (fun c_56 => ?_) (fun c_56 => ?_)
        · have h_56 := q_lt_t (a := (4 * kc) + 4) (b := 3 * A.1) (by omega) (by omega) c_56
          refine lv_iconst (v := 0) hx hb dX2_isFull_81 (by decide) ?_
          exact W.zret (v := 0) hx hb hr (rfl) (fun t ht hW => ⟨_, rfl, (q_b_f (fun z => by have := z.2.1; omega)).symm, ht⟩) (fun _ h => by cases h) dX2_isFull_82
        · have h_56 := q_lt_f (a := (4 * kc) + 4) (b := 3 * A.1) (by omega) (by omega) c_56
          refine lv_iconst (v := 2) hx hb dX2_isFull_59 (by decide) ?_
          refine lv_aload_n hx hb dX2_isFull_60 rfl (lv_at hl 1 rfl) ?_
          refine va_get (D := (dC, dI)) (ci := 2) (v := .ref gz) (C := RX2) (T := TX2) (N := 12) hx hb hts hin_X2_isFull_X2 hown hK hP 0 rfl rfl 5 (by decide) (hts (.fieldLink RX2 19 "StepMapModel" "sizes" "[I") (by decide +kernel)) (fun _ h9 => h9) rfl dX2_isFull_61 ?_
          refine lv_aload_n hx hb dX2_isFull_64 rfl (lv_at hl 1 rfl) ?_
          refine va_get (D := (dC, dI)) (ci := 2) (v := .int (nI ci)) (C := RX2) (T := TX2) (N := 12) hx hb hts hin_X2_isFull_X2 hown hK hP 0 rfl rfl 6 (by decide) (hts (.fieldLink RX2 43 "StepMapModel" "current" "I") (by decide +kernel)) (fun _ h9 => h9) rfl dX2_isFull_65 ?_
          refine r_ld (i := ci) hx hb hK hP 4 0 rfl rfl (by omega) (by omega) dX2_isFull_68 ?_
          refine r_eq (z := nI A.1) (hzA) ?_
          refine lv_imul hx hb dX2_isFull_69 ?_
          refine r_eq (z := nI (2 * A.1)) (pk_mul 2 A.1) ?_
          refine lv_aload_n hx hb dX2_isFull_70 rfl (lv_at hl 1 rfl) ?_
          refine va_get (D := (dC, dI)) (ci := 2) (v := .int (nI L)) (C := RX2) (T := TX2) (N := 12) hx hb hts hin_X2_isFull_X2 hown hK hP 0 rfl rfl 1 (by decide) (hts (.fieldLink RX2 22 "StepMapModel" "half" "I") (by decide +kernel)) (fun _ h9 => h9) rfl dX2_isFull_71 ?_
          refine lv_icmp_le (tgt := 81) hx hb dX2_isFull_74 (by decide) (fun c_74 => ?_) (fun c_74 => ?_)
          · have h_74 := q_le_t (a := 2 * A.1) (b := L) (by omega) (by omega) c_74
            refine lv_iconst (v := 0) hx hb dX2_isFull_81 (by decide) ?_
            exact W.zret (v := 0) hx hb hr (rfl) (fun t ht hW => ⟨_, rfl, (q_b_f (fun z => by have := z.2.2; omega)).symm, ht⟩) (fun _ h => by cases h) dX2_isFull_82
          · have h_74 := q_le_f (a := 2 * A.1) (b := L) (by omega) (by omega) c_74
            refine lv_iconst (v := 1) hx hb dX2_isFull_77 (by decide) ?_
            refine lv_goto (tgt := 82) hx hb dX2_isFull_78 (by decide) ?_
            exact W.zret (v := 1) hx hb hr (rfl) (fun t ht hW => ⟨_, rfl, (q_b_t ⟨fun y => Exists.elim y fun c2 z => by obtain ⟨z1, z2⟩ := z; cases z1; omega, by omega, by omega⟩).symm, ht⟩) (fun _ h => by cases h) dX2_isFull_82
    · have h_24 := q_le_f (a := B.1 - cu) (b := 4) (by omega) (by omega) c_24
      refine lv_iconst (v := 1) hx hb dX2_isFull_27 (by decide) ?_
      refine lv_goto (tgt := 32) hx hb dX2_isFull_28 (by decide) ?_
      refine lv_istore_n (lv' := [(1, .int 1), (0, .ref g0)]) hx hb dX2_isFull_32 rfl hl (by decide) rfl (fun ls hl => ?_)
      refine lv_iload_n hx hb dX2_isFull_33 rfl (lv_at hl 0 rfl) ?_
      refine lv_if_ne (tgt := 81) hx hb dX2_isFull_34 (by decide) (fun c_34 => ?_) (fun c_34 => ?_)
      · have h_34 := q_eq_f (a := 1) (b := 0) (by omega) (by omega) c_34
        have hnf : ¬ q_full L A B (some cu) kc := fun z => z.1 ⟨cu, rfl, by omega⟩
        refine lv_iconst (v := 0) hx hb dX2_isFull_81 (by decide) ?_
        exact W.zret (v := 0) hx hb hr (rfl) (fun t ht hW => ⟨_, rfl, (q_b_f hnf).symm, ht⟩) (fun _ h => by cases h) dX2_isFull_82
      · have h_34 := q_eq_t (a := 1) (b := 0) (by omega) (by omega) c_34
        omega
set_option maxHeartbeats 4000000 in
set_option maxRecDepth 100000 in
theorem c_X2_lay (l : Launch) (dC : Nat → ClassId) (dI : Nat → Nat → Nat) (cI : ClassId) (g0 gs gk gv gz L : Nat) (Sx Kx Vx Zx : Nat → Int32) (x0 x6 x7 x8 x9 x10 x11 : Int32) (ti i : Nat) (k v : Int32) (sz : Nat) (hi : 1024 * ti + i < 2048) : Met l yX2_lay wsX2_lay ({ frames := 1, cells := 0, slots := 0, locals := 22 }) (r_Mc (dC, dI) vwCl [(cI, .int)] [(g0, .inr (2, [.int x0, .int (nI L), .ref gs, .ref gk, .ref gv, .ref gz, .int x6, .int x7, .int x8, .int x9, .int x10, .int x11])), (gs, .inl (cI, 2048, .inl Sx)), (gk, .inl (cI, 2048, .inl Kx)), (gv, .inl (cI, 2048, .inl Vx)), (gz, .inl (cI, 2, .inl Zx))] sz [.ref g0, .int (nI ti), .int (nI i), .int k, .int v]) (va_Qv (fun (_ : Unit) => True) (fun u t => r_B (dC, dI) vwCl [(cI, .int)] (va_A [(g0, .inr (2, [.int x0, .int (nI L), .ref gs, .ref gk, .ref gv, .ref gz, .int x6, .int x7, .int x8, .int x9, .int x10, .int x11])), (gs, .inl (cI, 2048, .inl Sx)), (gk, .inl (cI, 2048, .inl Kx)), (gv, .inl (cI, 2048, .inl Vx)), (gz, .inl (cI, 2, .inl Zx))] sz) ((fun _ => [(g0, .inr (2, [.int x0, .int (nI L), .ref gs, .ref gk, .ref gv, .ref gz, .int x6, .int x7, .int x8, .int x9, .int x10, .int x11])), (gs, .inl (cI, 2048, .inl (upd Sx (1024 * ti + i) 1))), (gk, .inl (cI, 2048, .inl (upd Kx (1024 * ti + i) k))), (gv, .inl (cI, 2048, .inl (upd Vx (1024 * ti + i) v))), (gz, .inl (cI, 2, .inl Zx))]) u) t) (va_A [(g0, .inr (2, [.int x0, .int (nI L), .ref gs, .ref gk, .ref gv, .ref gz, .int x6, .int x7, .int x8, .int x9, .int x10, .int x11])), (gs, .inl (cI, 2048, .inl Sx)), (gk, .inl (cI, 2048, .inl Kx)), (gv, .inl (cI, 2048, .inl Vx)), (gz, .inl (cI, 2, .inl Zx))] sz)) 0 0 (va_A [(g0, .inr (2, [.int x0, .int (nI L), .ref gs, .ref gk, .ref gv, .ref gz, .int x6, .int x7, .int x8, .int x9, .int x10, .int x11])), (gs, .inl (cI, 2048, .inl Sx)), (gk, .inl (cI, 2048, .inl Kx)), (gv, .inl (cI, 2048, .inl Vx)), (gz, .inl (cI, 2, .inl Zx))] sz) := by
  refine Met.ofW (cc := cX2_lay) (maxL := 5) (ret := none) (by decide) rfl ?_
  intro p e s m args below meth c s₁ Bd hml hv
  obtain ⟨rfl, hsz, hP, hK, hD0⟩ := hv
  have hx := Bd.exec
  have hb := Bd.bytes
  have hr := Bd.returns
  have hts := atoms_spec (ws := wsX2_lay) Bd.pre
  have hown : s.vm.findClass RX2 = some m.cls := findClass_of_methodNamed Bd.named
  have hlocks := Bd.notSynchronized
  have S0 : CallFix p m c cX2_lay 5 s _ wsX2_lay RX2 := ⟨hx, hb, hml, hown, hts⟩
  subst hsz
  have hD := hD0.self (sz := s.heap.size)
  generalize hAe : va_A [(g0, .inr (2, [.int x0, .int (nI L), .ref gs, .ref gk, .ref gv, .ref gz, .int x6, .int x7, .int x8, .int x9, .int x10, .int x11])), (gs, .inl (cI, 2048, .inl Sx)), (gk, .inl (cI, 2048, .inl Kx)), (gv, .inl (cI, 2048, .inl Vx)), (gz, .inl (cI, 2, .inl Zx))] s.heap.size = Aq at hD ⊢
  have hA : ∀ q : Nat, s.heap.size ≤ q → Aq q := fun q h => by rw [← hAe]; exact Or.inr h
  have hS : va_S Aq s.heap s.heap [] := va_S.rf
  have hD : va_D Aq [(g0, .inr (2, [.int x0, .int (nI L), .ref gs, .ref gk, .ref gv, .ref gz, .int x6, .int x7, .int x8, .int x9, .int x10, .int x11])), (gs, .inl (cI, 2048, .inl Sx)), (gk, .inl (cI, 2048, .inl Kx)), (gv, .inl (cI, 2048, .inl Vx)), (gz, .inl (cI, 2, .inl Zx))] := hD
  have hP : va_P (dC, dI) vwCl [(g0, .inr (2, [.int x0, .int (nI L), .ref gs, .ref gk, .ref gv, .ref gz, .int x6, .int x7, .int x8, .int x9, .int x10, .int x11])), (gs, .inl (cI, 2048, .inl Sx)), (gk, .inl (cI, 2048, .inl Kx)), (gv, .inl (cI, 2048, .inl Vx)), (gz, .inl (cI, 2, .inl Zx))] s.heap := hP
  have hl := lv_entry ([.ref g0, .int (nI ti), .int (nI i), .int k, .int v]) (n := 5) (Nat.le_of_ble_eq_true rfl)
  rw [lg_entry_eq]
  generalize (lg_sl ([.ref g0, .int (nI ti), .int (nI i), .int k, .int v]) ++ List.replicate (5 - (lg_sl ([.ref g0, .int (nI ti), .int (nI i), .int k, .int v])).length) Slot.unset).toArray = ls at hl ⊢
  have hl : lv_has ls 5 [(0, .ref g0), (1, .int (nI ti)), (2, .int (nI i)), (3, .int k), (4, .int v)] := hl
  refine lv_aload_n hx hb dX2_lay_0 rfl (lv_at hl 0 rfl) ?_
  refine va_get (D := (dC, dI)) (ci := 2) (v := .ref gs) (C := RX2) (T := TX2) (N := 12) hx hb hts hin_X2_lay_X2 hown hK hP 0 rfl rfl 2 (by decide) (hts (.fieldLink RX2 7 "StepMapModel" "states" "[I") (by decide +kernel)) (fun _ h9 => h9) rfl dX2_lay_1 ?_
  refine lv_aload_n hx hb dX2_lay_4 rfl (lv_at hl 0 rfl) ?_
  refine lv_iload_n hx hb dX2_lay_5 rfl (lv_at hl 1 rfl) ?_
  refine lv_iload_n hx hb dX2_lay_6 rfl (lv_at hl 2 rfl) ?_
  refine r_roV (rest := [.ref gs]) S0 (c_X2_at l dC dI cI g0 gs gk gv gz L Sx Kx Vx Zx x0 x6 x7 x8 x9 x10 x11 ti i) (cwV 2 hts gX2_lay_X2_at rfl rfl rfl (by decide +kernel) ⟨Nat.le_of_ble_eq_true rfl, Nat.le_of_ble_eq_true rfl⟩) hK hP [0, 1, 2, 3, 4] rfl (ci := 2) (q0 := 0) rfl rfl rfl rfl hl.1 rfl (Nat.le_of_ble_eq_true rfl) dX2_lay_7 ⟨Nat.zero_le _, Nat.zero_le _⟩ ?_
  refine lv_iconst (v := 1) hx hb dX2_lay_10 (by decide) ?_
  refine r_st (i := 1024 * ti + i) hx hb hK hP hD hS 1 0 rfl rfl (by omega) (by omega) dX2_lay_11 (fun H locs hP hD hS => ?_)
  have hP : va_P (dC, dI) vwCl [(g0, .inr (2, [.int x0, .int (nI L), .ref gs, .ref gk, .ref gv, .ref gz, .int x6, .int x7, .int x8, .int x9, .int x10, .int x11])), (gs, .inl (cI, 2048, .inl (upd Sx (1024 * ti + i) 1))), (gk, .inl (cI, 2048, .inl Kx)), (gv, .inl (cI, 2048, .inl Vx)), (gz, .inl (cI, 2, .inl Zx))] H := hP
  have hD : va_D Aq [(g0, .inr (2, [.int x0, .int (nI L), .ref gs, .ref gk, .ref gv, .ref gz, .int x6, .int x7, .int x8, .int x9, .int x10, .int x11])), (gs, .inl (cI, 2048, .inl (upd Sx (1024 * ti + i) 1))), (gk, .inl (cI, 2048, .inl Kx)), (gv, .inl (cI, 2048, .inl Vx)), (gz, .inl (cI, 2, .inl Zx))] := hD
  refine lv_aload_n hx hb dX2_lay_12 rfl (lv_at hl 0 rfl) ?_
  refine va_get (D := (dC, dI)) (ci := 2) (v := .ref gk) (C := RX2) (T := TX2) (N := 12) hx hb hts hin_X2_lay_X2 hown hK hP 0 rfl rfl 3 (by decide) (hts (.fieldLink RX2 13 "StepMapModel" "keys" "[I") (by decide +kernel)) (fun _ h9 => h9) rfl dX2_lay_13 ?_
  refine lv_aload_n hx hb dX2_lay_16 rfl (lv_at hl 0 rfl) ?_
  refine lv_iload_n hx hb dX2_lay_17 rfl (lv_at hl 1 rfl) ?_
  refine lv_iload_n hx hb dX2_lay_18 rfl (lv_at hl 2 rfl) ?_
  refine r_roV (rest := [.ref gk]) S0 (c_X2_at l dC dI cI g0 gs gk gv gz L (upd Sx (1024 * ti + i) 1) Kx Vx Zx x0 x6 x7 x8 x9 x10 x11 ti i) (cwV 2 hts gX2_lay_X2_at rfl rfl rfl (by decide +kernel) ⟨Nat.le_of_ble_eq_true rfl, Nat.le_of_ble_eq_true rfl⟩) hK hP [0, 1, 2, 3, 4] rfl (ci := 2) (q0 := 0) rfl rfl rfl rfl hl.1 rfl (Nat.le_of_ble_eq_true rfl) dX2_lay_19 ⟨Nat.zero_le _, Nat.zero_le _⟩ ?_
  refine lv_iload_n hx hb dX2_lay_22 rfl (lv_at hl 3 rfl) ?_
  refine r_st (i := 1024 * ti + i) hx hb hK hP hD hS 2 0 rfl rfl (by omega) (by omega) dX2_lay_23 (fun H locs hP hD hS => ?_)
  have hP : va_P (dC, dI) vwCl [(g0, .inr (2, [.int x0, .int (nI L), .ref gs, .ref gk, .ref gv, .ref gz, .int x6, .int x7, .int x8, .int x9, .int x10, .int x11])), (gs, .inl (cI, 2048, .inl (upd Sx (1024 * ti + i) 1))), (gk, .inl (cI, 2048, .inl (upd Kx (1024 * ti + i) k))), (gv, .inl (cI, 2048, .inl Vx)), (gz, .inl (cI, 2, .inl Zx))] H := hP
  have hD : va_D Aq [(g0, .inr (2, [.int x0, .int (nI L), .ref gs, .ref gk, .ref gv, .ref gz, .int x6, .int x7, .int x8, .int x9, .int x10, .int x11])), (gs, .inl (cI, 2048, .inl (upd Sx (1024 * ti + i) 1))), (gk, .inl (cI, 2048, .inl (upd Kx (1024 * ti + i) k))), (gv, .inl (cI, 2048, .inl Vx)), (gz, .inl (cI, 2, .inl Zx))] := hD
  refine lv_aload_n hx hb dX2_lay_24 rfl (lv_at hl 0 rfl) ?_
  refine va_get (D := (dC, dI)) (ci := 2) (v := .ref gv) (C := RX2) (T := TX2) (N := 12) hx hb hts hin_X2_lay_X2 hown hK hP 0 rfl rfl 4 (by decide) (hts (.fieldLink RX2 16 "StepMapModel" "values" "[I") (by decide +kernel)) (fun _ h9 => h9) rfl dX2_lay_25 ?_
  refine lv_aload_n hx hb dX2_lay_28 rfl (lv_at hl 0 rfl) ?_
  refine lv_iload_n hx hb dX2_lay_29 rfl (lv_at hl 1 rfl) ?_
  refine lv_iload_n hx hb dX2_lay_30 rfl (lv_at hl 2 rfl) ?_
  refine r_roV (rest := [.ref gv]) S0 (c_X2_at l dC dI cI g0 gs gk gv gz L (upd Sx (1024 * ti + i) 1) (upd Kx (1024 * ti + i) k) Vx Zx x0 x6 x7 x8 x9 x10 x11 ti i) (cwV 2 hts gX2_lay_X2_at rfl rfl rfl (by decide +kernel) ⟨Nat.le_of_ble_eq_true rfl, Nat.le_of_ble_eq_true rfl⟩) hK hP [0, 1, 2, 3, 4] rfl (ci := 2) (q0 := 0) rfl rfl rfl rfl hl.1 rfl (Nat.le_of_ble_eq_true rfl) dX2_lay_31 ⟨Nat.zero_le _, Nat.zero_le _⟩ ?_
  refine lv_iload hx hb dX2_lay_34 (lv_at hl 4 rfl) ?_
  refine r_st (i := 1024 * ti + i) hx hb hK hP hD hS 3 0 rfl rfl (by omega) (by omega) dX2_lay_36 (fun H locs hP hD hS => ?_)
  have hP : va_P (dC, dI) vwCl [(g0, .inr (2, [.int x0, .int (nI L), .ref gs, .ref gk, .ref gv, .ref gz, .int x6, .int x7, .int x8, .int x9, .int x10, .int x11])), (gs, .inl (cI, 2048, .inl (upd Sx (1024 * ti + i) 1))), (gk, .inl (cI, 2048, .inl (upd Kx (1024 * ti + i) k))), (gv, .inl (cI, 2048, .inl (upd Vx (1024 * ti + i) v))), (gz, .inl (cI, 2, .inl Zx))] H := hP
  have hD : va_D Aq [(g0, .inr (2, [.int x0, .int (nI L), .ref gs, .ref gk, .ref gv, .ref gz, .int x6, .int x7, .int x8, .int x9, .int x10, .int x11])), (gs, .inl (cI, 2048, .inl (upd Sx (1024 * ti + i) 1))), (gk, .inl (cI, 2048, .inl (upd Kx (1024 * ti + i) k))), (gv, .inl (cI, 2048, .inl (upd Vx (1024 * ti + i) v))), (gz, .inl (cI, 2, .inl Zx))] := hD
  exact W.vret hx hb hr (fun t ht hW => ⟨⟨(), rfl, trivial, by rw [ht]; exact hP, va_K.moved hW.alike hK, hD⟩, hS.F ht⟩) hS.2.2 dX2_lay_37
set_option maxHeartbeats 4000000 in
set_option maxRecDepth 100000 in
theorem lp_X2_look {p : Program} {l : Launch} {e : Env} {s : State} {m : MethodId} {args : Array Value} {below : List Frame} {meth : Method} {c : Code} {Q : State → Prop} {dC : Nat → ClassId} {dI : Nat → Nat → Nat} {cI : ClassId} {Aq : Nat → Prop} {H0 : Heap} (S0 : CallFix p m c cX2_look 4 s args wsX2_look RX2) (hK : va_K (dC, dI) vwCl [(cI, .int)] s) (hA : ∀ q : Nat, H0.size ≤ q → Aq q) (g0 gs gk gv gz L : Nat) (Sx Kx Vx Zx : Nat → Int32) (x0 x6 x7 x8 x9 x11 : Int32) (ti : Nat) (T : q_TB) (k : Int32) (E W2 : Nat) (ht : ti < 2) (hz : Zx ti = nI T.1) (hn : q_pw T.1) (hRT : q_RT Sx Kx Vx ti T)
    (kk1 : ∀ (_ : T.2.1 E = 0) (H : Heap) (locs : List Loc) (ls : Array Slot), va_P (dC, dI) vwCl [(g0, .inr (2, [.int x0, .int (nI L), .ref gs, .ref gk, .ref gv, .ref gz, .int x6, .int x7, .int x8, .int x9, .int (nI W2), .int x11])), (gs, .inl (cI, 2048, .inl Sx)), (gk, .inl (cI, 2048, .inl Kx)), (gv, .inl (cI, 2048, .inl Vx)), (gz, .inl (cI, 2, .inl Zx))] H → va_D Aq [(g0, .inr (2, [.int x0, .int (nI L), .ref gs, .ref gk, .ref gv, .ref gz, .int x6, .int x7, .int x8, .int x9, .int (nI W2), .int x11])), (gs, .inl (cI, 2048, .inl Sx)), (gk, .inl (cI, 2048, .inl Kx)), (gv, .inl (cI, 2048, .inl Vx)), (gz, .inl (cI, 2, .inl Zx))] → va_S Aq H0 H locs → lv_has ls 4 [(0, .ref g0), (1, .int k), (2, .int (nI ti)), (3, .int (nI E))] → W p l e ({ frames := 1, cells := 0, slots := 0, locals := 24 }) s m args below meth c H locs 0 0 Q (F0 m 83 ls []))
    (kk2 : ∀ (_ : T.2.1 E = 2 ∧ T.2.2.1 E = k) (H : Heap) (locs : List Loc) (ls : Array Slot), va_P (dC, dI) vwCl [(g0, .inr (2, [.int x0, .int (nI L), .ref gs, .ref gk, .ref gv, .ref gz, .int x6, .int x7, .int x8, .int x9, .int (nI W2), .int x11])), (gs, .inl (cI, 2048, .inl Sx)), (gk, .inl (cI, 2048, .inl Kx)), (gv, .inl (cI, 2048, .inl Vx)), (gz, .inl (cI, 2, .inl Zx))] H → va_D Aq [(g0, .inr (2, [.int x0, .int (nI L), .ref gs, .ref gk, .ref gv, .ref gz, .int x6, .int x7, .int x8, .int x9, .int (nI W2), .int x11])), (gs, .inl (cI, 2048, .inl Sx)), (gk, .inl (cI, 2048, .inl Kx)), (gv, .inl (cI, 2048, .inl Vx)), (gz, .inl (cI, 2, .inl Zx))] → va_S Aq H0 H locs → lv_has ls 4 [(0, .ref g0), (1, .int k), (2, .int (nI ti)), (3, .int (nI E))] → W p l e ({ frames := 1, cells := 0, slots := 0, locals := 24 }) s m args below meth c H locs 0 0 Q (F0 m 61 ls [])) :
    ∀ (f : Nat) (i v2 : Nat), i < T.1 ∧ q_stp T.2.1 T.2.2.1 k (q_ad T.1 i (q_lkS T.2.1 T.2.2.1 T.1 k f i)) ∧ f < T.1 ∧ (q_ad T.1 i (q_lkS T.2.1 T.2.2.1 T.1 k f i)) = E ∧ v2 + q_lkS T.2.1 T.2.2.1 T.1 k f i = W2 → ∀ (H : Heap) (locs : List Loc) (ls : Array Slot), va_P (dC, dI) vwCl [(g0, .inr (2, [.int x0, .int (nI L), .ref gs, .ref gk, .ref gv, .ref gz, .int x6, .int x7, .int x8, .int x9, .int (nI v2), .int x11])), (gs, .inl (cI, 2048, .inl Sx)), (gk, .inl (cI, 2048, .inl Kx)), (gv, .inl (cI, 2048, .inl Vx)), (gz, .inl (cI, 2, .inl Zx))] H → va_D Aq [(g0, .inr (2, [.int x0, .int (nI L), .ref gs, .ref gk, .ref gv, .ref gz, .int x6, .int x7, .int x8, .int x9, .int (nI v2), .int x11])), (gs, .inl (cI, 2048, .inl Sx)), (gk, .inl (cI, 2048, .inl Kx)), (gv, .inl (cI, 2048, .inl Vx)), (gz, .inl (cI, 2, .inl Zx))] → va_S Aq H0 H locs → lv_has ls 4 [(0, .ref g0), (1, .int k), (2, .int (nI ti)), (3, .int (nI i))] → W p l e ({ frames := 1, cells := 0, slots := 0, locals := 24 }) s m args below meth c H locs 0 0 Q (F0 m 17 ls []) := by
  obtain ⟨hx, hb, hml, hown, hts⟩ := id S0
  intro f
  induction f with
  | zero =>
    intro i v2 hi H locs ls hP hD hS hl
    obtain ⟨h1, h2, h3, h4, h5⟩ := hi
    have hn8 := q_pw_8 hn
    have hst0 : q_stp T.2.1 T.2.2.1 k (q_ad T.1 i 0) := h2
    rw [q_ad_0 h1] at hst0
    refine lv_aload_n hx hb dX2_look_17 rfl (lv_at hl 0 rfl) ?_
    refine va_get (D := (dC, dI)) (ci := 2) (v := .ref gs) (C := RX2) (T := TX2) (N := 12) hx hb hts hin_X2_look_X2 hown hK hP 0 rfl rfl 2 (by decide) (hts (.fieldLink RX2 7 "StepMapModel" "states" "[I") (by decide +kernel)) (fun _ h9 => h9) rfl dX2_look_18 ?_
    refine lv_aload_n hx hb dX2_look_21 rfl (lv_at hl 0 rfl) ?_
    refine lv_iload_n hx hb dX2_look_22 rfl (lv_at hl 2 rfl) ?_
    refine lv_iload_n hx hb dX2_look_23 rfl (lv_at hl 3 rfl) ?_
    refine r_roV (rest := [.ref gs]) S0 (c_X2_at l dC dI cI g0 gs gk gv gz L Sx Kx Vx Zx x0 x6 x7 x8 x9 (nI v2) x11 ti i) (cwV 2 hts gX2_look_X2_at rfl rfl rfl (by decide +kernel) ⟨Nat.le_of_ble_eq_true rfl, Nat.le_of_ble_eq_true rfl⟩) hK hP [0, 1, 2, 3, 4] rfl (ci := 2) (q0 := 0) rfl rfl rfl rfl hl.1 rfl (Nat.le_of_ble_eq_true rfl) dX2_look_24 ⟨Nat.zero_le _, Nat.zero_le _⟩ ?_
    refine r_ld (i := 1024 * ti + i) hx hb hK hP 1 0 rfl rfl (by omega) (by omega) dX2_look_27 ?_
    refine r_eq (z := q_sw (T.2.1 i)) (q_RT_s hRT h1) ?_
    refine lv_if_eq (tgt := 83) hx hb dX2_look_28 (by decide) (fun c_28 => ?_) (fun c_28 => ?_)
    · have m0 := q_sw_0.mp c_28
      have hst : q_stp T.2.1 T.2.2.1 k i := Or.inl m0
      rw [q_lkS_z _ _ hst] at h2 h4 h5
      have e3 : i = E := by rw [← h4]; exact (q_ad_0 h1).symm
      have e4 : v2 = W2 := h5
      subst e3
      subst e4
      exact kk1 m0 H locs ls hP hD hS (lv_sub hl [0, 1, 2, 3] rfl)
    · have n0 : ¬ T.2.1 i = 0 := fun z => c_28 (q_sw_0.mpr z)
      refine lv_aload_n hx hb dX2_look_31 rfl (lv_at hl 0 rfl) ?_
      refine va_get (D := (dC, dI)) (ci := 2) (v := .ref gs) (C := RX2) (T := TX2) (N := 12) hx hb hts hin_X2_look_X2 hown hK hP 0 rfl rfl 2 (by decide) (hts (.fieldLink RX2 7 "StepMapModel" "states" "[I") (by decide +kernel)) (fun _ h9 => h9) rfl dX2_look_32 ?_
      refine lv_aload_n hx hb dX2_look_35 rfl (lv_at hl 0 rfl) ?_
      refine lv_iload_n hx hb dX2_look_36 rfl (lv_at hl 2 rfl) ?_
      refine lv_iload_n hx hb dX2_look_37 rfl (lv_at hl 3 rfl) ?_
      refine r_roV (rest := [.ref gs]) S0 (c_X2_at l dC dI cI g0 gs gk gv gz L Sx Kx Vx Zx x0 x6 x7 x8 x9 (nI v2) x11 ti i) (cwV 2 hts gX2_look_X2_at rfl rfl rfl (by decide +kernel) ⟨Nat.le_of_ble_eq_true rfl, Nat.le_of_ble_eq_true rfl⟩) hK hP [0, 1, 2, 3, 4] rfl (ci := 2) (q0 := 0) rfl rfl rfl rfl hl.1 rfl (Nat.le_of_ble_eq_true rfl) dX2_look_38 ⟨Nat.zero_le _, Nat.zero_le _⟩ ?_
      refine r_ld (i := 1024 * ti + i) hx hb hK hP 1 0 rfl rfl (by omega) (by omega) dX2_look_41 ?_
      refine r_eq (z := q_sw (T.2.1 i)) (q_RT_s hRT h1) ?_
      refine lv_iconst (v := 1) hx hb dX2_look_42 (by decide) ?_
      refine lv_icmp_ne (tgt := 63) hx hb dX2_look_43 (by decide) (fun c_43 => ?_) (fun c_43 => ?_)
      · have ns : ¬ q_stp T.2.1 T.2.2.1 k i := fun z => z.elim n0 (fun y => c_43 (q_sw_1.mpr y.1))
        exact absurd hst0 ns
      · have m2 := q_sw_1.mp c_43
        refine lv_aload_n hx hb dX2_look_46 rfl (lv_at hl 0 rfl) ?_
        refine va_get (D := (dC, dI)) (ci := 2) (v := .ref gk) (C := RX2) (T := TX2) (N := 12) hx hb hts hin_X2_look_X2 hown hK hP 0 rfl rfl 3 (by decide) (hts (.fieldLink RX2 13 "StepMapModel" "keys" "[I") (by decide +kernel)) (fun _ h9 => h9) rfl dX2_look_47 ?_
        refine lv_aload_n hx hb dX2_look_50 rfl (lv_at hl 0 rfl) ?_
        refine lv_iload_n hx hb dX2_look_51 rfl (lv_at hl 2 rfl) ?_
        refine lv_iload_n hx hb dX2_look_52 rfl (lv_at hl 3 rfl) ?_
        refine r_roV (rest := [.ref gk]) S0 (c_X2_at l dC dI cI g0 gs gk gv gz L Sx Kx Vx Zx x0 x6 x7 x8 x9 (nI v2) x11 ti i) (cwV 2 hts gX2_look_X2_at rfl rfl rfl (by decide +kernel) ⟨Nat.le_of_ble_eq_true rfl, Nat.le_of_ble_eq_true rfl⟩) hK hP [0, 1, 2, 3, 4] rfl (ci := 2) (q0 := 0) rfl rfl rfl rfl hl.1 rfl (Nat.le_of_ble_eq_true rfl) dX2_look_53 ⟨Nat.zero_le _, Nat.zero_le _⟩ ?_
        refine r_ld (i := 1024 * ti + i) hx hb hK hP 2 0 rfl rfl (by omega) (by omega) dX2_look_56 ?_
        refine r_eq (z := T.2.2.1 i) (q_RT_k hRT h1 m2) ?_
        refine lv_iload_n hx hb dX2_look_57 rfl (lv_at hl 1 rfl) ?_
        refine lv_icmp_ne (tgt := 63) hx hb dX2_look_58 (by decide) (fun c_58 => ?_) (fun c_58 => ?_)
        · have ns : ¬ q_stp T.2.1 T.2.2.1 k i := fun z => z.elim n0 (fun y => c_58 y.2)
          exact absurd hst0 ns
        · have hst : q_stp T.2.1 T.2.2.1 k i := Or.inr ⟨m2, c_58⟩
          rw [q_lkS_z _ _ hst] at h2 h4 h5
          have e3 : i = E := by rw [← h4]; exact (q_ad_0 h1).symm
          have e4 : v2 = W2 := h5
          subst e3
          subst e4
          exact kk2 ⟨m2, c_58⟩ H locs ls hP hD hS (lv_sub hl [0, 1, 2, 3] rfl)
  | succ f ih =>
    intro i v2 hi H locs ls hP hD hS hl
    obtain ⟨h1, h2, h3, h4, h5⟩ := hi
    have hn8 := q_pw_8 hn
    refine lv_aload_n hx hb dX2_look_17 rfl (lv_at hl 0 rfl) ?_
    refine va_get (D := (dC, dI)) (ci := 2) (v := .ref gs) (C := RX2) (T := TX2) (N := 12) hx hb hts hin_X2_look_X2 hown hK hP 0 rfl rfl 2 (by decide) (hts (.fieldLink RX2 7 "StepMapModel" "states" "[I") (by decide +kernel)) (fun _ h9 => h9) rfl dX2_look_18 ?_
    refine lv_aload_n hx hb dX2_look_21 rfl (lv_at hl 0 rfl) ?_
    refine lv_iload_n hx hb dX2_look_22 rfl (lv_at hl 2 rfl) ?_
    refine lv_iload_n hx hb dX2_look_23 rfl (lv_at hl 3 rfl) ?_
    refine r_roV (rest := [.ref gs]) S0 (c_X2_at l dC dI cI g0 gs gk gv gz L Sx Kx Vx Zx x0 x6 x7 x8 x9 (nI v2) x11 ti i) (cwV 2 hts gX2_look_X2_at rfl rfl rfl (by decide +kernel) ⟨Nat.le_of_ble_eq_true rfl, Nat.le_of_ble_eq_true rfl⟩) hK hP [0, 1, 2, 3, 4] rfl (ci := 2) (q0 := 0) rfl rfl rfl rfl hl.1 rfl (Nat.le_of_ble_eq_true rfl) dX2_look_24 ⟨Nat.zero_le _, Nat.zero_le _⟩ ?_
    refine r_ld (i := 1024 * ti + i) hx hb hK hP 1 0 rfl rfl (by omega) (by omega) dX2_look_27 ?_
    refine r_eq (z := q_sw (T.2.1 i)) (q_RT_s hRT h1) ?_
    refine lv_if_eq (tgt := 83) hx hb dX2_look_28 (by decide) (fun c_28 => ?_) (fun c_28 => ?_)
    · have m0 := q_sw_0.mp c_28
      have hst : q_stp T.2.1 T.2.2.1 k i := Or.inl m0
      rw [q_lkS_z _ _ hst] at h2 h4 h5
      have e3 : i = E := by rw [← h4]; exact (q_ad_0 h1).symm
      have e4 : v2 = W2 := h5
      subst e3
      subst e4
      exact kk1 m0 H locs ls hP hD hS (lv_sub hl [0, 1, 2, 3] rfl)
    · have n0 : ¬ T.2.1 i = 0 := fun z => c_28 (q_sw_0.mpr z)
      refine lv_aload_n hx hb dX2_look_31 rfl (lv_at hl 0 rfl) ?_
      refine va_get (D := (dC, dI)) (ci := 2) (v := .ref gs) (C := RX2) (T := TX2) (N := 12) hx hb hts hin_X2_look_X2 hown hK hP 0 rfl rfl 2 (by decide) (hts (.fieldLink RX2 7 "StepMapModel" "states" "[I") (by decide +kernel)) (fun _ h9 => h9) rfl dX2_look_32 ?_
      refine lv_aload_n hx hb dX2_look_35 rfl (lv_at hl 0 rfl) ?_
      refine lv_iload_n hx hb dX2_look_36 rfl (lv_at hl 2 rfl) ?_
      refine lv_iload_n hx hb dX2_look_37 rfl (lv_at hl 3 rfl) ?_
      refine r_roV (rest := [.ref gs]) S0 (c_X2_at l dC dI cI g0 gs gk gv gz L Sx Kx Vx Zx x0 x6 x7 x8 x9 (nI v2) x11 ti i) (cwV 2 hts gX2_look_X2_at rfl rfl rfl (by decide +kernel) ⟨Nat.le_of_ble_eq_true rfl, Nat.le_of_ble_eq_true rfl⟩) hK hP [0, 1, 2, 3, 4] rfl (ci := 2) (q0 := 0) rfl rfl rfl rfl hl.1 rfl (Nat.le_of_ble_eq_true rfl) dX2_look_38 ⟨Nat.zero_le _, Nat.zero_le _⟩ ?_
      refine r_ld (i := 1024 * ti + i) hx hb hK hP 1 0 rfl rfl (by omega) (by omega) dX2_look_41 ?_
      refine r_eq (z := q_sw (T.2.1 i)) (q_RT_s hRT h1) ?_
      refine lv_iconst (v := 1) hx hb dX2_look_42 (by decide) ?_
      refine lv_icmp_ne (tgt := 63) hx hb dX2_look_43 (by decide) (fun c_43 => ?_) (fun c_43 => ?_)
      · have ns : ¬ q_stp T.2.1 T.2.2.1 k i := fun z => z.elim n0 (fun y => c_43 (q_sw_1.mpr y.1))
        refine lv_aload_n hx hb dX2_look_63 rfl (lv_at hl 0 rfl) ?_
        refine lv_iload_n hx hb dX2_look_64 rfl (lv_at hl 3 rfl) ?_
        refine lv_iload_n hx hb dX2_look_65 rfl (lv_at hl 2 rfl) ?_
        refine r_roV (rest := []) S0 (c_X2_behind l dC dI cI g0 gs gk gv gz L Sx Kx Vx Zx x0 x6 x7 x8 x9 (nI v2) x11 i ti T.1 (by omega) hz hn (by omega)) (cwV 2 hts gX2_look_X2_behind rfl rfl rfl (by decide +kernel) ⟨Nat.le_of_ble_eq_true rfl, Nat.le_of_ble_eq_true rfl⟩) hK hP [0, 1, 2, 3, 4] rfl (ci := 2) (q0 := 0) rfl rfl rfl rfl hl.1 rfl (Nat.le_of_ble_eq_true rfl) dX2_look_66 ⟨Nat.zero_le _, Nat.zero_le _⟩ ?_
        refine lv_istore_n (lv' := [(3, .int (nI (q_ad T.1 i 1))), (0, .ref g0), (1, .int k), (2, .int (nI ti))]) hx hb dX2_look_69 rfl hl (by decide) rfl (fun ls hl => ?_)
        refine lv_aload_n hx hb dX2_look_70 rfl (lv_at hl 1 rfl) ?_
        refine lv_dup hx hb dX2_look_71 rfl ?_
        refine va_get (D := (dC, dI)) (ci := 2) (v := .int (nI v2)) (C := RX2) (T := TX2) (N := 12) hx hb hts hin_X2_look_X2 hown hK hP 0 rfl rfl 10 (by decide) (hts (.fieldLink RX2 34 "StepMapModel" "visits" "I") (by decide +kernel)) (fun _ h9 => h9) rfl dX2_look_72 ?_
        refine lv_iconst (v := 1) hx hb dX2_look_75 (by decide) ?_
        refine lv_iadd hx hb dX2_look_76 ?_
        refine r_eq (z := nI (v2 + 1)) (nI_add v2 1) ?_
        refine va_put (D := (dC, dI)) (ci := 2) (v := .int (nI (v2 + 1))) (ty := .int) (C := RX2) (T := TX2) (N := 12) hx hb hts hin_X2_look_X2 tyX2 tyX2_ok nmX2 hown hK hP hD hS 0 rfl rfl 10 (by decide) (hts (.fieldLink RX2 34 "StepMapModel" "visits" "I") (by decide +kernel)) (fun _ h9 => h9) rfl (by decide +kernel) (rfl) (rfl) (Nat.le_of_ble_eq_true rfl) dX2_look_77 (fun H locs hP hD hS => ?_)
        have hP : va_P (dC, dI) vwCl [(g0, .inr (2, [.int x0, .int (nI L), .ref gs, .ref gk, .ref gv, .ref gz, .int x6, .int x7, .int x8, .int x9, .int (nI (v2 + 1)), .int x11])), (gs, .inl (cI, 2048, .inl Sx)), (gk, .inl (cI, 2048, .inl Kx)), (gv, .inl (cI, 2048, .inl Vx)), (gz, .inl (cI, 2, .inl Zx))] H := hP
        have hD : va_D Aq [(g0, .inr (2, [.int x0, .int (nI L), .ref gs, .ref gk, .ref gv, .ref gz, .int x6, .int x7, .int x8, .int x9, .int (nI (v2 + 1)), .int x11])), (gs, .inl (cI, 2048, .inl Sx)), (gk, .inl (cI, 2048, .inl Kx)), (gv, .inl (cI, 2048, .inl Vx)), (gz, .inl (cI, 2, .inl Zx))] := hD
        refine lv_goto (tgt := 17) hx hb dX2_look_80 (by decide) ?_
        rw [q_lkS_s _ _ ns] at h2 h4 h5
        have hle := q_lkS_le (M := T.2.1) (K := T.2.2.1) (n := T.1) (k := k) f (q_ad T.1 i 1)
        have ea : q_ad T.1 (q_ad T.1 i 1) (q_lkS T.2.1 T.2.2.1 T.1 k f (q_ad T.1 i 1)) = q_ad T.1 i (q_lkS T.2.1 T.2.2.1 T.1 k f (q_ad T.1 i 1) + 1) := by rw [q_ad_ad h1 (by omega), Nat.add_comm 1 _]
        exact ih (q_ad T.1 i 1) (v2 + 1) ⟨q_ad_lt h1 (by omega), by rw [ea]; exact h2, by omega, by rw [ea]; exact h4, by omega⟩ H locs ls hP hD hS (lv_sub hl [1, 2, 3, 0] rfl)
      · have m2 := q_sw_1.mp c_43
        refine lv_aload_n hx hb dX2_look_46 rfl (lv_at hl 0 rfl) ?_
        refine va_get (D := (dC, dI)) (ci := 2) (v := .ref gk) (C := RX2) (T := TX2) (N := 12) hx hb hts hin_X2_look_X2 hown hK hP 0 rfl rfl 3 (by decide) (hts (.fieldLink RX2 13 "StepMapModel" "keys" "[I") (by decide +kernel)) (fun _ h9 => h9) rfl dX2_look_47 ?_
        refine lv_aload_n hx hb dX2_look_50 rfl (lv_at hl 0 rfl) ?_
        refine lv_iload_n hx hb dX2_look_51 rfl (lv_at hl 2 rfl) ?_
        refine lv_iload_n hx hb dX2_look_52 rfl (lv_at hl 3 rfl) ?_
        refine r_roV (rest := [.ref gk]) S0 (c_X2_at l dC dI cI g0 gs gk gv gz L Sx Kx Vx Zx x0 x6 x7 x8 x9 (nI v2) x11 ti i) (cwV 2 hts gX2_look_X2_at rfl rfl rfl (by decide +kernel) ⟨Nat.le_of_ble_eq_true rfl, Nat.le_of_ble_eq_true rfl⟩) hK hP [0, 1, 2, 3, 4] rfl (ci := 2) (q0 := 0) rfl rfl rfl rfl hl.1 rfl (Nat.le_of_ble_eq_true rfl) dX2_look_53 ⟨Nat.zero_le _, Nat.zero_le _⟩ ?_
        refine r_ld (i := 1024 * ti + i) hx hb hK hP 2 0 rfl rfl (by omega) (by omega) dX2_look_56 ?_
        refine r_eq (z := T.2.2.1 i) (q_RT_k hRT h1 m2) ?_
        refine lv_iload_n hx hb dX2_look_57 rfl (lv_at hl 1 rfl) ?_
        refine lv_icmp_ne (tgt := 63) hx hb dX2_look_58 (by decide) (fun c_58 => ?_) (fun c_58 => ?_)
        · have ns : ¬ q_stp T.2.1 T.2.2.1 k i := fun z => z.elim n0 (fun y => c_58 y.2)
          refine lv_aload_n hx hb dX2_look_63 rfl (lv_at hl 0 rfl) ?_
          refine lv_iload_n hx hb dX2_look_64 rfl (lv_at hl 3 rfl) ?_
          refine lv_iload_n hx hb dX2_look_65 rfl (lv_at hl 2 rfl) ?_
          refine r_roV (rest := []) S0 (c_X2_behind l dC dI cI g0 gs gk gv gz L Sx Kx Vx Zx x0 x6 x7 x8 x9 (nI v2) x11 i ti T.1 (by omega) hz hn (by omega)) (cwV 2 hts gX2_look_X2_behind rfl rfl rfl (by decide +kernel) ⟨Nat.le_of_ble_eq_true rfl, Nat.le_of_ble_eq_true rfl⟩) hK hP [0, 1, 2, 3, 4] rfl (ci := 2) (q0 := 0) rfl rfl rfl rfl hl.1 rfl (Nat.le_of_ble_eq_true rfl) dX2_look_66 ⟨Nat.zero_le _, Nat.zero_le _⟩ ?_
          refine lv_istore_n (lv' := [(3, .int (nI (q_ad T.1 i 1))), (0, .ref g0), (1, .int k), (2, .int (nI ti))]) hx hb dX2_look_69 rfl hl (by decide) rfl (fun ls hl => ?_)
          refine lv_aload_n hx hb dX2_look_70 rfl (lv_at hl 1 rfl) ?_
          refine lv_dup hx hb dX2_look_71 rfl ?_
          refine va_get (D := (dC, dI)) (ci := 2) (v := .int (nI v2)) (C := RX2) (T := TX2) (N := 12) hx hb hts hin_X2_look_X2 hown hK hP 0 rfl rfl 10 (by decide) (hts (.fieldLink RX2 34 "StepMapModel" "visits" "I") (by decide +kernel)) (fun _ h9 => h9) rfl dX2_look_72 ?_
          refine lv_iconst (v := 1) hx hb dX2_look_75 (by decide) ?_
          refine lv_iadd hx hb dX2_look_76 ?_
          refine r_eq (z := nI (v2 + 1)) (nI_add v2 1) ?_
          refine va_put (D := (dC, dI)) (ci := 2) (v := .int (nI (v2 + 1))) (ty := .int) (C := RX2) (T := TX2) (N := 12) hx hb hts hin_X2_look_X2 tyX2 tyX2_ok nmX2 hown hK hP hD hS 0 rfl rfl 10 (by decide) (hts (.fieldLink RX2 34 "StepMapModel" "visits" "I") (by decide +kernel)) (fun _ h9 => h9) rfl (by decide +kernel) (rfl) (rfl) (Nat.le_of_ble_eq_true rfl) dX2_look_77 (fun H locs hP hD hS => ?_)
          have hP : va_P (dC, dI) vwCl [(g0, .inr (2, [.int x0, .int (nI L), .ref gs, .ref gk, .ref gv, .ref gz, .int x6, .int x7, .int x8, .int x9, .int (nI (v2 + 1)), .int x11])), (gs, .inl (cI, 2048, .inl Sx)), (gk, .inl (cI, 2048, .inl Kx)), (gv, .inl (cI, 2048, .inl Vx)), (gz, .inl (cI, 2, .inl Zx))] H := hP
          have hD : va_D Aq [(g0, .inr (2, [.int x0, .int (nI L), .ref gs, .ref gk, .ref gv, .ref gz, .int x6, .int x7, .int x8, .int x9, .int (nI (v2 + 1)), .int x11])), (gs, .inl (cI, 2048, .inl Sx)), (gk, .inl (cI, 2048, .inl Kx)), (gv, .inl (cI, 2048, .inl Vx)), (gz, .inl (cI, 2, .inl Zx))] := hD
          refine lv_goto (tgt := 17) hx hb dX2_look_80 (by decide) ?_
          rw [q_lkS_s _ _ ns] at h2 h4 h5
          have hle := q_lkS_le (M := T.2.1) (K := T.2.2.1) (n := T.1) (k := k) f (q_ad T.1 i 1)
          have ea : q_ad T.1 (q_ad T.1 i 1) (q_lkS T.2.1 T.2.2.1 T.1 k f (q_ad T.1 i 1)) = q_ad T.1 i (q_lkS T.2.1 T.2.2.1 T.1 k f (q_ad T.1 i 1) + 1) := by rw [q_ad_ad h1 (by omega), Nat.add_comm 1 _]
          exact ih (q_ad T.1 i 1) (v2 + 1) ⟨q_ad_lt h1 (by omega), by rw [ea]; exact h2, by omega, by rw [ea]; exact h4, by omega⟩ H locs ls hP hD hS (lv_sub hl [1, 2, 3, 0] rfl)
        · have hst : q_stp T.2.1 T.2.2.1 k i := Or.inr ⟨m2, c_58⟩
          rw [q_lkS_z _ _ hst] at h2 h4 h5
          have e3 : i = E := by rw [← h4]; exact (q_ad_0 h1).symm
          have e4 : v2 = W2 := h5
          subst e3
          subst e4
          exact kk2 ⟨m2, c_58⟩ H locs ls hP hD hS (lv_sub hl [0, 1, 2, 3] rfl)
set_option maxHeartbeats 4000000 in
set_option maxRecDepth 100000 in
theorem c_X2_look (l : Launch) (dC : Nat → ClassId) (dI : Nat → Nat → Nat) (cI : ClassId) (g0 gs gk gv gz L : Nat) (Sx Kx Vx Zx : Nat → Int32) (x0 x6 x7 x8 x9 x11 : Int32) (vi ti : Nat) (T : q_TB) (k : Int32) (sz : Nat) (ht : ti < 2) (hz : Zx ti = nI T.1) (hn : q_pw T.1) (hRT : q_RT Sx Kx Vx ti T) (hEM : q_EM T) : Met l yX2_look wsX2_look ({ frames := 1, cells := 0, slots := 0, locals := 24 }) (r_Mc (dC, dI) vwCl [(cI, .int)] [(g0, .inr (2, [.int x0, .int (nI L), .ref gs, .ref gk, .ref gv, .ref gz, .int x6, .int x7, .int x8, .int x9, .int (nI vi), .int x11])), (gs, .inl (cI, 2048, .inl Sx)), (gk, .inl (cI, 2048, .inl Kx)), (gv, .inl (cI, 2048, .inl Vx)), (gz, .inl (cI, 2, .inl Zx))] sz [.ref g0, .int k, .int (nI ti)]) (va_Qi (fun (r : Int32) (_ : Unit) => r = q_lkR T k) (fun u t => r_B (dC, dI) vwCl [(cI, .int)] (va_A [(g0, .inr (2, [.int x0, .int (nI L), .ref gs, .ref gk, .ref gv, .ref gz, .int x6, .int x7, .int x8, .int x9, .int (nI vi), .int x11])), (gs, .inl (cI, 2048, .inl Sx)), (gk, .inl (cI, 2048, .inl Kx)), (gv, .inl (cI, 2048, .inl Vx)), (gz, .inl (cI, 2, .inl Zx))] sz) ((fun _ => [(g0, .inr (2, [.int x0, .int (nI L), .ref gs, .ref gk, .ref gv, .ref gz, .int x6, .int x7, .int x8, .int x9, .int (nI (vi + (q_lkD T k + 1))), .int x11])), (gs, .inl (cI, 2048, .inl Sx)), (gk, .inl (cI, 2048, .inl Kx)), (gv, .inl (cI, 2048, .inl Vx)), (gz, .inl (cI, 2, .inl Zx))]) u) t) (va_A [(g0, .inr (2, [.int x0, .int (nI L), .ref gs, .ref gk, .ref gv, .ref gz, .int x6, .int x7, .int x8, .int x9, .int (nI vi), .int x11])), (gs, .inl (cI, 2048, .inl Sx)), (gk, .inl (cI, 2048, .inl Kx)), (gv, .inl (cI, 2048, .inl Vx)), (gz, .inl (cI, 2, .inl Zx))] sz)) 0 0 (va_A [(g0, .inr (2, [.int x0, .int (nI L), .ref gs, .ref gk, .ref gv, .ref gz, .int x6, .int x7, .int x8, .int x9, .int (nI vi), .int x11])), (gs, .inl (cI, 2048, .inl Sx)), (gk, .inl (cI, 2048, .inl Kx)), (gv, .inl (cI, 2048, .inl Vx)), (gz, .inl (cI, 2, .inl Zx))] sz) := by
  refine Met.ofW (cc := cX2_look) (maxL := 4) (ret := (some .int)) (by decide) rfl ?_
  intro p e s m args below meth c s₁ Bd hml hv
  obtain ⟨rfl, hsz, hP, hK, hD0⟩ := hv
  have hx := Bd.exec
  have hb := Bd.bytes
  have hr := Bd.returns
  have hts := atoms_spec (ws := wsX2_look) Bd.pre
  have hown : s.vm.findClass RX2 = some m.cls := findClass_of_methodNamed Bd.named
  have hlocks := Bd.notSynchronized
  have S0 : CallFix p m c cX2_look 4 s _ wsX2_look RX2 := ⟨hx, hb, hml, hown, hts⟩
  subst hsz
  have hD := hD0.self (sz := s.heap.size)
  generalize hAe : va_A [(g0, .inr (2, [.int x0, .int (nI L), .ref gs, .ref gk, .ref gv, .ref gz, .int x6, .int x7, .int x8, .int x9, .int (nI vi), .int x11])), (gs, .inl (cI, 2048, .inl Sx)), (gk, .inl (cI, 2048, .inl Kx)), (gv, .inl (cI, 2048, .inl Vx)), (gz, .inl (cI, 2, .inl Zx))] s.heap.size = Aq at hD ⊢
  have hA : ∀ q : Nat, s.heap.size ≤ q → Aq q := fun q h => by rw [← hAe]; exact Or.inr h
  have hS : va_S Aq s.heap s.heap [] := va_S.rf
  have hD : va_D Aq [(g0, .inr (2, [.int x0, .int (nI L), .ref gs, .ref gk, .ref gv, .ref gz, .int x6, .int x7, .int x8, .int x9, .int (nI vi), .int x11])), (gs, .inl (cI, 2048, .inl Sx)), (gk, .inl (cI, 2048, .inl Kx)), (gv, .inl (cI, 2048, .inl Vx)), (gz, .inl (cI, 2, .inl Zx))] := hD
  have hP : va_P (dC, dI) vwCl [(g0, .inr (2, [.int x0, .int (nI L), .ref gs, .ref gk, .ref gv, .ref gz, .int x6, .int x7, .int x8, .int x9, .int (nI vi), .int x11])), (gs, .inl (cI, 2048, .inl Sx)), (gk, .inl (cI, 2048, .inl Kx)), (gv, .inl (cI, 2048, .inl Vx)), (gz, .inl (cI, 2, .inl Zx))] s.heap := hP
  have hl := lv_entry ([.ref g0, .int k, .int (nI ti)]) (n := 4) (Nat.le_of_ble_eq_true rfl)
  rw [lg_entry_eq]
  generalize (lg_sl ([.ref g0, .int k, .int (nI ti)]) ++ List.replicate (4 - (lg_sl ([.ref g0, .int k, .int (nI ti)])).length) Slot.unset).toArray = ls at hl ⊢
  have hl : lv_has ls 4 [(0, .ref g0), (1, .int k), (2, .int (nI ti))] := hl
  have hn8 := q_pw_8 hn
  refine lv_aload_n hx hb dX2_look_0 rfl (lv_at hl 0 rfl) ?_
  refine lv_iload_n hx hb dX2_look_1 rfl (lv_at hl 1 rfl) ?_
  refine lv_iload_n hx hb dX2_look_2 rfl (lv_at hl 2 rfl) ?_
  refine r_roV (rest := []) S0 (c_X2_home l dC dI cI g0 gs gk gv gz L Sx Kx Vx Zx x0 x6 x7 x8 x9 (nI vi) x11 k ti T.1 (by omega) hz hn) (cwV 2 hts gX2_look_X2_home rfl rfl rfl (by decide +kernel) ⟨Nat.le_of_ble_eq_true rfl, Nat.le_of_ble_eq_true rfl⟩) hK hP [0, 1, 2, 3, 4] rfl (ci := 2) (q0 := 0) rfl rfl rfl rfl hl.1 rfl (Nat.le_of_ble_eq_true rfl) dX2_look_3 ⟨Nat.zero_le _, Nat.zero_le _⟩ ?_
  refine lv_istore_n (lv' := [(3, .int (nI (q_hm T.1 k))), (0, .ref g0), (1, .int k), (2, .int (nI ti))]) hx hb dX2_look_6 rfl hl (by decide) rfl (fun ls hl => ?_)
  refine lv_aload_n hx hb dX2_look_7 rfl (lv_at hl 1 rfl) ?_
  refine lv_dup hx hb dX2_look_8 rfl ?_
  refine va_get (D := (dC, dI)) (ci := 2) (v := .int (nI vi)) (C := RX2) (T := TX2) (N := 12) hx hb hts hin_X2_look_X2 hown hK hP 0 rfl rfl 10 (by decide) (hts (.fieldLink RX2 34 "StepMapModel" "visits" "I") (by decide +kernel)) (fun _ h9 => h9) rfl dX2_look_9 ?_
  refine lv_iconst (v := 1) hx hb dX2_look_12 (by decide) ?_
  refine lv_iadd hx hb dX2_look_13 ?_
  refine r_eq (z := nI (vi + 1)) (nI_add vi 1) ?_
  refine va_put (D := (dC, dI)) (ci := 2) (v := .int (nI (vi + 1))) (ty := .int) (C := RX2) (T := TX2) (N := 12) hx hb hts hin_X2_look_X2 tyX2 tyX2_ok nmX2 hown hK hP hD hS 0 rfl rfl 10 (by decide) (hts (.fieldLink RX2 34 "StepMapModel" "visits" "I") (by decide +kernel)) (fun _ h9 => h9) rfl (by decide +kernel) (rfl) (rfl) (Nat.le_of_ble_eq_true rfl) dX2_look_14 (fun H locs hP hD hS => ?_)
  have hP : va_P (dC, dI) vwCl [(g0, .inr (2, [.int x0, .int (nI L), .ref gs, .ref gk, .ref gv, .ref gz, .int x6, .int x7, .int x8, .int x9, .int (nI (vi + 1)), .int x11])), (gs, .inl (cI, 2048, .inl Sx)), (gk, .inl (cI, 2048, .inl Kx)), (gv, .inl (cI, 2048, .inl Vx)), (gz, .inl (cI, 2, .inl Zx))] H := hP
  have hD : va_D Aq [(g0, .inr (2, [.int x0, .int (nI L), .ref gs, .ref gk, .ref gv, .ref gz, .int x6, .int x7, .int x8, .int x9, .int (nI (vi + 1)), .int x11])), (gs, .inl (cI, 2048, .inl Sx)), (gk, .inl (cI, 2048, .inl Kx)), (gv, .inl (cI, 2048, .inl Vx)), (gz, .inl (cI, 2, .inl Zx))] := hD
  have hst := q_lk_stp (t := T) k (by omega) hEM
  refine lp_X2_look S0 hK hA g0 gs gk gv gz L Sx Kx Vx Zx x0 x6 x7 x8 x9 x11 ti T k (q_lkE T k) (vi + (q_lkD T k + 1)) ht hz hn hRT (fun m0 H locs ls hP hD hS hl => ?_) (fun m2 H locs ls hP hD hS hl => ?_) (T.1 - 1) (q_hm T.1 k) (vi + 1) ⟨q_hm_lt k (by omega), hst, by omega, rfl, by show vi + 1 + q_lkD T k = _; omega⟩ H locs ls hP hD hS (lv_sub hl [1, 2, 3, 0] rfl)
  · refine lv_iconst (v := -1) hx hb dX2_look_83 (by decide) ?_
    refine lv_iload_n hx hb dX2_look_84 rfl (lv_at hl 3 rfl) ?_
    refine lv_isub hx hb dX2_look_85 ?_
    exact W.iret (v := (-1) - (nI (q_lkE T k))) hx hb hr (fun t ht hW => ⟨⟨_, (), rfl, (q_lkR_f (fun z => absurd (m0.symm.trans z.1) (by decide))).symm, by rw [ht]; exact hP, va_K.moved hW.alike hK, hD⟩, hS.F ht⟩) hS.2.2 dX2_look_86
  · refine lv_iload_n hx hb dX2_look_61 rfl (lv_at hl 3 rfl) ?_
    exact W.iret (v := nI (q_lkE T k)) hx hb hr (fun t ht hW => ⟨⟨_, (), rfl, (q_lkR_t m2).symm, by rw [ht]; exact hP, va_K.moved hW.alike hK, hD⟩, hS.F ht⟩) hS.2.2 dX2_look_62
