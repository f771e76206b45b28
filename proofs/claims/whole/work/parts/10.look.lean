/-! MAP: looking for a key (laid by gen_map.py) -/
set_option maxHeartbeats 4000000 in
set_option maxRecDepth 100000 in
theorem lp_X1_lookFor {p : Program} {l : Launch} {e : Env} {s : State} {m : MethodId} {args : Array Value} {below : List Frame} {meth : Method} {c : Code} {Q : State → Prop} {dC : Nat → ClassId} {dI : Nat → Nat → Nat} {cI : ClassId} {Aq : Nat → Prop} {H0 : Heap} (S0 : CallFix p m c cX1_lookFor 5 s args wsX1_lookFor RX1) (hK : va_K (dC, dI) vwCl [(cI, .int)] s) (hA : ∀ q : Nat, H0.size ≤ q → Aq q) (h0 ra rb ta ma ka va L : Nat) (x0 x3 x4 : Int32) (T : q_TB) (k : Int32) (E W2 : Nat) (hn : q_pw T.1) (hnL : T.1 ≤ L) (hL : L ≤ 1024)
    (kk : ∀ (H : Heap) (locs : List Loc) (ls : Array Slot), va_P (dC, dI) vwCl [(h0, .inr (1, [.int x0, .ref ra, .ref rb, .int x3, .int x4, .int (nI W2)])), (ta, .inr (0, [.ref ma, .ref ka, .ref va, .int (nI T.1)])), (ma, .inl (cI, L, .inl T.2.1)), (ka, .inl (cI, L, .inl T.2.2.1)), (va, .inl (cI, L, .inl T.2.2.2))] H → va_D Aq [(h0, .inr (1, [.int x0, .ref ra, .ref rb, .int x3, .int x4, .int (nI W2)])), (ta, .inr (0, [.ref ma, .ref ka, .ref va, .int (nI T.1)])), (ma, .inl (cI, L, .inl T.2.1)), (ka, .inl (cI, L, .inl T.2.2.1)), (va, .inl (cI, L, .inl T.2.2.2))] → va_S Aq H0 H locs → lv_has ls 5 [(0, .ref h0), (1, .ref ta), (2, .int k), (3, .int (nI E))] → W p l e ({ frames := 2, cells := 0, slots := 0, locals := 44 }) s m args below meth c H locs 0 0 Q (F0 m 59 ls [])) :
    ∀ (f : Nat) (i s2 w : Nat), s2 + f = T.1 ∧ i < T.1 ∧ q_ad T.1 i (q_lkS T.2.1 T.2.2.1 T.1 k f i) = E ∧ w + q_lkS T.2.1 T.2.2.1 T.1 k f i = W2 → ∀ (H : Heap) (locs : List Loc) (ls : Array Slot), va_P (dC, dI) vwCl [(h0, .inr (1, [.int x0, .ref ra, .ref rb, .int x3, .int x4, .int (nI w)])), (ta, .inr (0, [.ref ma, .ref ka, .ref va, .int (nI T.1)])), (ma, .inl (cI, L, .inl T.2.1)), (ka, .inl (cI, L, .inl T.2.2.1)), (va, .inl (cI, L, .inl T.2.2.2))] H → va_D Aq [(h0, .inr (1, [.int x0, .ref ra, .ref rb, .int x3, .int x4, .int (nI w)])), (ta, .inr (0, [.ref ma, .ref ka, .ref va, .int (nI T.1)])), (ma, .inl (cI, L, .inl T.2.1)), (ka, .inl (cI, L, .inl T.2.2.1)), (va, .inl (cI, L, .inl T.2.2.2))] → va_S Aq H0 H locs → lv_has ls 5 [(0, .ref h0), (1, .ref ta), (2, .int k), (3, .int (nI i)), (4, .int (nI s2))] → W p l e ({ frames := 2, cells := 0, slots := 0, locals := 44 }) s m args below meth c H locs 0 0 Q (F0 m 19 ls []) := by
  obtain ⟨hx, hb, hml, hown, hts⟩ := id S0
  intro f
  induction f with
  | zero =>
    intro i s2 w hi H locs ls hP hD hS hl
    have hn8 := q_pw_8 hn
    obtain ⟨h1, h2, h3, h4⟩ := hi
    refine lv_iload hx hb dX1_lookFor_19 (lv_at hl 4 rfl) ?_
    refine lv_aload_n hx hb dX1_lookFor_21 rfl (lv_at hl 1 rfl) ?_
    refine va_get (D := (dC, dI)) (ci := 0) (v := .int (nI T.1)) (C := RX0) (T := TX0) (N := 4) hx hb hts hin_X1_lookFor_X0 hown hK hP 1 rfl rfl 3 (by decide) (hts (.fieldLink RX1 69 "StepMap$Table" "slots" "I") (by decide +kernel)) (fun _ h9 => h9) rfl dX1_lookFor_22 ?_
    refine lv_icmp_ge (tgt := 59) hx hb dX1_lookFor_25 (by decide) (fun c_25 => ?_) (fun c_25 => ?_)
    · have h_25 := q_le_t (a := T.1) (b := s2) (by omega) (by omega) c_25
      have e3 : i = E := by rw [← h3]; exact (q_ad_0 h2).symm
      have e4 : w = W2 := h4
      subst e3
      subst e4
      exact kk H locs ls hP hD hS (lv_sub hl [0, 1, 2, 3] rfl)
    · have h_25 := q_le_f (a := T.1) (b := s2) (by omega) (by omega) c_25
      omega
  | succ f ih =>
    intro i s2 w hi H locs ls hP hD hS hl
    have hn8 := q_pw_8 hn
    obtain ⟨h1, h2, h3, h4⟩ := hi
    refine lv_iload hx hb dX1_lookFor_19 (lv_at hl 4 rfl) ?_
    refine lv_aload_n hx hb dX1_lookFor_21 rfl (lv_at hl 1 rfl) ?_
    refine va_get (D := (dC, dI)) (ci := 0) (v := .int (nI T.1)) (C := RX0) (T := TX0) (N := 4) hx hb hts hin_X1_lookFor_X0 hown hK hP 1 rfl rfl 3 (by decide) (hts (.fieldLink RX1 69 "StepMap$Table" "slots" "I") (by decide +kernel)) (fun _ h9 => h9) rfl dX1_lookFor_22 ?_
    refine lv_icmp_ge (tgt := 59) hx hb dX1_lookFor_25 (by decide) (fun c_25 => ?_) (fun c_25 => ?_)
    · have h_25 := q_le_t (a := T.1) (b := s2) (by omega) (by omega) c_25
      omega
    · have h_25 := q_le_f (a := T.1) (b := s2) (by omega) (by omega) c_25
      refine lv_aload_n hx hb dX1_lookFor_28 rfl (lv_at hl 1 rfl) ?_
      refine lv_iload_n hx hb dX1_lookFor_29 rfl (lv_at hl 3 rfl) ?_
      refine lv_iload_n hx hb dX1_lookFor_30 rfl (lv_at hl 2 rfl) ?_
      refine r_roV (rest := []) S0 (c_X0_endsSearch l dC dI cI ta ma ka va L T.1 T.2.1 T.2.2.1 T.2.2.2 i k (by assumption) (by omega) (by omega) (by omega)) (cwV 2 hts gX1_lookFor_X0_endsSearch rfl rfl rfl (by decide +kernel) ⟨Nat.le_of_ble_eq_true rfl, Nat.le_of_ble_eq_true rfl⟩) hK hP [1, 2, 3, 4] rfl (ci := 0) (q0 := 0) rfl rfl rfl rfl hl.1 rfl (Nat.le_of_ble_eq_true rfl) dX1_lookFor_31 ⟨Nat.zero_le _, Nat.zero_le _⟩ ?_
      refine lv_if_ne (tgt := 59) hx hb dX1_lookFor_34 (by decide) (fun c_34 => ?_) (fun c_34 => ?_)
      · have h_34 : (q_stp T.2.1 T.2.2.1 k i) := q_b_n0 c_34
        rw [q_lkS_z _ _ h_34] at h3 h4
        have e3 : i = E := by rw [← h3]; exact (q_ad_0 h2).symm
        have e4 : w = W2 := h4
        subst e3
        subst e4
        exact kk H locs ls hP hD hS (lv_sub hl [0, 1, 2, 3] rfl)
      · have h_34 : ¬ (q_stp T.2.1 T.2.2.1 k i) := q_b_0.mp c_34
        refine lv_aload_n hx hb dX1_lookFor_37 rfl (lv_at hl 1 rfl) ?_
        refine lv_iload_n hx hb dX1_lookFor_38 rfl (lv_at hl 3 rfl) ?_
        refine r_roV (rest := []) S0 (c_X0_next l dC dI cI ta ma ka va L T.1 T.2.1 T.2.2.1 T.2.2.2 i (by assumption) (by omega) (by omega) (by omega)) (cwV 1 hts gX1_lookFor_X0_next rfl rfl rfl (by decide +kernel) ⟨Nat.le_of_ble_eq_true rfl, Nat.le_of_ble_eq_true rfl⟩) hK hP [1, 2, 3, 4] rfl (ci := 0) (q0 := 0) rfl rfl rfl rfl hl.1 rfl (Nat.le_of_ble_eq_true rfl) dX1_lookFor_39 ⟨Nat.zero_le _, Nat.zero_le _⟩ ?_
        refine lv_istore_n (lv' := [(3, .int (nI (q_ad T.1 i 1))), (0, .ref h0), (1, .ref ta), (2, .int k), (4, .int (nI s2))]) hx hb dX1_lookFor_42 rfl hl (by decide) rfl (fun ls hl => ?_)
        refine lv_aload_n hx hb dX1_lookFor_43 rfl (lv_at hl 1 rfl) ?_
        refine lv_dup hx hb dX1_lookFor_44 rfl ?_
        refine va_get (D := (dC, dI)) (ci := 1) (v := .int (nI w)) (C := RX1) (T := TX1) (N := 6) hx hb hts hin_X1_lookFor_X1 hown hK hP 0 rfl rfl 5 (by decide) (hts (.fieldLink RX1 35 "StepMap" "work" "I") (by decide +kernel)) (fun _ h9 => h9) rfl dX1_lookFor_45 ?_
        refine lv_iconst (v := 1) hx hb dX1_lookFor_48 (by decide) ?_
        refine lv_iadd hx hb dX1_lookFor_49 ?_
        refine r_eq (z := nI (w + 1)) (nI_add w 1) ?_
        refine va_put (D := (dC, dI)) (ci := 1) (v := .int (nI (w + 1))) (ty := .int) (C := RX1) (T := TX1) (N := 6) hx hb hts hin_X1_lookFor_X1 tyX1 tyX1_ok nmX1 hown hK hP hD hS 0 rfl rfl 5 (by decide) (hts (.fieldLink RX1 35 "StepMap" "work" "I") (by decide +kernel)) (fun _ h9 => h9) rfl (by decide +kernel) (rfl) (rfl) (Nat.le_of_ble_eq_true rfl) dX1_lookFor_50 (fun H locs hP hD hS => ?_)
        have hP : va_P (dC, dI) vwCl [(h0, .inr (1, [.int x0, .ref ra, .ref rb, .int x3, .int x4, .int (nI (w + 1))])), (ta, .inr (0, [.ref ma, .ref ka, .ref va, .int (nI T.1)])), (ma, .inl (cI, L, .inl T.2.1)), (ka, .inl (cI, L, .inl T.2.2.1)), (va, .inl (cI, L, .inl T.2.2.2))] H := hP
        have hD : va_D Aq [(h0, .inr (1, [.int x0, .ref ra, .ref rb, .int x3, .int x4, .int (nI (w + 1))])), (ta, .inr (0, [.ref ma, .ref ka, .ref va, .int (nI T.1)])), (ma, .inl (cI, L, .inl T.2.1)), (ka, .inl (cI, L, .inl T.2.2.1)), (va, .inl (cI, L, .inl T.2.2.2))] := hD
        refine lv_iinc (v := nI (s2 + 1)) (lv' := [(4, .int (nI (s2 + 1))), (3, .int (nI (q_ad T.1 i 1))), (0, .ref h0), (1, .ref ta), (2, .int k)]) hx hb dX1_lookFor_53 hl (k := 4) rfl (nI_1 _) (by decide) rfl (fun ls hl => ?_)
        refine lv_goto (tgt := 19) hx hb dX1_lookFor_56 (by decide) ?_
        rw [q_lkS_s _ _ h_34] at h3 h4
        have hle := q_lkS_le (M := T.2.1) (K := T.2.2.1) (n := T.1) (k := k) f (q_ad T.1 i 1)
        exact ih (q_ad T.1 i 1) (s2 + 1) (w + 1) ⟨by omega, q_ad_lt h2 (by omega), by rw [q_ad_ad h2 (by omega), Nat.add_comm 1 _]; exact h3, by omega⟩ H locs ls hP hD hS (lv_sub hl [2, 3, 4, 1, 0] rfl)
set_option maxHeartbeats 4000000 in
set_option maxRecDepth 100000 in
theorem c_X1_lookFor (l : Launch) (dC : Nat → ClassId) (dI : Nat → Nat → Nat) (cI : ClassId) (h0 ra rb ta ma ka va L : Nat) (x0 x3 x4 : Int32) (w : Nat) (T : q_TB) (k : Int32) (sz : Nat) (hn : q_pw T.1) (hnL : T.1 ≤ L) (hL : L ≤ 1024) : Met l yX1_lookFor wsX1_lookFor ({ frames := 2, cells := 0, slots := 0, locals := 44 }) (r_Mc (dC, dI) vwCl [(cI, .int)] [(h0, .inr (1, [.int x0, .ref ra, .ref rb, .int x3, .int x4, .int (nI w)])), (ta, .inr (0, [.ref ma, .ref ka, .ref va, .int (nI T.1)])), (ma, .inl (cI, L, .inl T.2.1)), (ka, .inl (cI, L, .inl T.2.2.1)), (va, .inl (cI, L, .inl T.2.2.2))] sz [.ref h0, .ref ta, .int k]) (va_Qi (fun (r : Int32) (_ : Unit) => r = nI (q_lkE T k)) (fun u t => r_B (dC, dI) vwCl [(cI, .int)] (va_A [(h0, .inr (1, [.int x0, .ref ra, .ref rb, .int x3, .int x4, .int (nI w)])), (ta, .inr (0, [.ref ma, .ref ka, .ref va, .int (nI T.1)])), (ma, .inl (cI, L, .inl T.2.1)), (ka, .inl (cI, L, .inl T.2.2.1)), (va, .inl (cI, L, .inl T.2.2.2))] sz) ((fun _ => [(h0, .inr (1, [.int x0, .ref ra, .ref rb, .int x3, .int x4, .int (nI (w + (q_lkD T k + 1)))])), (ta, .inr (0, [.ref ma, .ref ka, .ref va, .int (nI T.1)])), (ma, .inl (cI, L, .inl T.2.1)), (ka, .inl (cI, L, .inl T.2.2.1)), (va, .inl (cI, L, .inl T.2.2.2))]) u) t) (va_A [(h0, .inr (1, [.int x0, .ref ra, .ref rb, .int x3, .int x4, .int (nI w)])), (ta, .inr (0, [.ref ma, .ref ka, .ref va, .int (nI T.1)])), (ma, .inl (cI, L, .inl T.2.1)), (ka, .inl (cI, L, .inl T.2.2.1)), (va, .inl (cI, L, .inl T.2.2.2))] sz)) 0 0 (va_A [(h0, .inr (1, [.int x0, .ref ra, .ref rb, .int x3, .int x4, .int (nI w)])), (ta, .inr (0, [.ref ma, .ref ka, .ref va, .int (nI T.1)])), (ma, .inl (cI, L, .inl T.2.1)), (ka, .inl (cI, L, .inl T.2.2.1)), (va, .inl (cI, L, .inl T.2.2.2))] sz) := by
  refine Met.ofW (cc := cX1_lookFor) (maxL := 5) (ret := (some .int)) (by decide) rfl ?_
  intro p e s m args below meth c s₁ Bd hml hv
  obtain ⟨rfl, hsz, hP, hK, hD0⟩ := hv
  have hx := Bd.exec
  have hb := Bd.bytes
  have hr := Bd.returns
  have hts := atoms_spec (ws := wsX1_lookFor) Bd.pre
  have hown : s.vm.findClass RX1 = some m.cls := findClass_of_methodNamed Bd.named
  have hlocks := Bd.notSynchronized
  have S0 : CallFix p m c cX1_lookFor 5 s _ wsX1_lookFor RX1 := ⟨hx, hb, hml, hown, hts⟩
  subst hsz
  have hD := hD0.self (sz := s.heap.size)
  generalize hAe : va_A [(h0, .inr (1, [.int x0, .ref ra, .ref rb, .int x3, .int x4, .int (nI w)])), (ta, .inr (0, [.ref ma, .ref ka, .ref va, .int (nI T.1)])), (ma, .inl (cI, L, .inl T.2.1)), (ka, .inl (cI, L, .inl T.2.2.1)), (va, .inl (cI, L, .inl T.2.2.2))] s.heap.size = Aq at hD ⊢
  have hA : ∀ q : Nat, s.heap.size ≤ q → Aq q := fun q h => by rw [← hAe]; exact Or.inr h
  have hS : va_S Aq s.heap s.heap [] := va_S.rf
  have hD : va_D Aq [(h0, .inr (1, [.int x0, .ref ra, .ref rb, .int x3, .int x4, .int (nI w)])), (ta, .inr (0, [.ref ma, .ref ka, .ref va, .int (nI T.1)])), (ma, .inl (cI, L, .inl T.2.1)), (ka, .inl (cI, L, .inl T.2.2.1)), (va, .inl (cI, L, .inl T.2.2.2))] := hD
  have hP : va_P (dC, dI) vwCl [(h0, .inr (1, [.int x0, .ref ra, .ref rb, .int x3, .int x4, .int (nI w)])), (ta, .inr (0, [.ref ma, .ref ka, .ref va, .int (nI T.1)])), (ma, .inl (cI, L, .inl T.2.1)), (ka, .inl (cI, L, .inl T.2.2.1)), (va, .inl (cI, L, .inl T.2.2.2))] s.heap := hP
  have hl := lv_entry ([.ref h0, .ref ta, .int k]) (n := 5) (Nat.le_of_ble_eq_true rfl)
  rw [lg_entry_eq]
  generalize (lg_sl ([.ref h0, .ref ta, .int k]) ++ List.replicate (5 - (lg_sl ([.ref h0, .ref ta, .int k])).length) Slot.unset).toArray = ls at hl ⊢
  have hl : lv_has ls 5 [(0, .ref h0), (1, .ref ta), (2, .int k)] := hl
  have hn8 := q_pw_8 hn
  refine lv_aload_n hx hb dX1_lookFor_0 rfl (lv_at hl 1 rfl) ?_
  refine lv_iload_n hx hb dX1_lookFor_1 rfl (lv_at hl 2 rfl) ?_
  refine r_roV (rest := []) S0 (c_X0_home l dC dI cI ta ma ka va L T.1 T.2.1 T.2.2.1 T.2.2.2 k (by assumption) (by omega) (by omega)) (cwV 1 hts gX1_lookFor_X0_home rfl rfl rfl (by decide +kernel) ⟨Nat.le_of_ble_eq_true rfl, Nat.le_of_ble_eq_true rfl⟩) hK hP [1, 2, 3, 4] rfl (ci := 0) (q0 := 0) rfl rfl rfl rfl hl.1 rfl (Nat.le_of_ble_eq_true rfl) dX1_lookFor_2 ⟨Nat.zero_le _, Nat.zero_le _⟩ ?_
  refine lv_istore_n (lv' := [(3, .int (nI (q_hm T.1 k))), (0, .ref h0), (1, .ref ta), (2, .int k)]) hx hb dX1_lookFor_5 rfl hl (by decide) rfl (fun ls hl => ?_)
  refine lv_aload_n hx hb dX1_lookFor_6 rfl (lv_at hl 1 rfl) ?_
  refine lv_dup hx hb dX1_lookFor_7 rfl ?_
  refine va_get (D := (dC, dI)) (ci := 1) (v := .int (nI w)) (C := RX1) (T := TX1) (N := 6) hx hb hts hin_X1_lookFor_X1 hown hK hP 0 rfl rfl 5 (by decide) (hts (.fieldLink RX1 35 "StepMap" "work" "I") (by decide +kernel)) (fun _ h9 => h9) rfl dX1_lookFor_8 ?_
  refine lv_iconst (v := 1) hx hb dX1_lookFor_11 (by decide) ?_
  refine lv_iadd hx hb dX1_lookFor_12 ?_
  refine r_eq (z := nI (w + 1)) (nI_add w 1) ?_
  refine va_put (D := (dC, dI)) (ci := 1) (v := .int (nI (w + 1))) (ty := .int) (C := RX1) (T := TX1) (N := 6) hx hb hts hin_X1_lookFor_X1 tyX1 tyX1_ok nmX1 hown hK hP hD hS 0 rfl rfl 5 (by decide) (hts (.fieldLink RX1 35 "StepMap" "work" "I") (by decide +kernel)) (fun _ h9 => h9) rfl (by decide +kernel) (rfl) (rfl) (Nat.le_of_ble_eq_true rfl) dX1_lookFor_13 (fun H locs hP hD hS => ?_)
  have hP : va_P (dC, dI) vwCl [(h0, .inr (1, [.int x0, .ref ra, .ref rb, .int x3, .int x4, .int (nI (w + 1))])), (ta, .inr (0, [.ref ma, .ref ka, .ref va, .int (nI T.1)])), (ma, .inl (cI, L, .inl T.2.1)), (ka, .inl (cI, L, .inl T.2.2.1)), (va, .inl (cI, L, .inl T.2.2.2))] H := hP
  have hD : va_D Aq [(h0, .inr (1, [.int x0, .ref ra, .ref rb, .int x3, .int x4, .int (nI (w + 1))])), (ta, .inr (0, [.ref ma, .ref ka, .ref va, .int (nI T.1)])), (ma, .inl (cI, L, .inl T.2.1)), (ka, .inl (cI, L, .inl T.2.2.1)), (va, .inl (cI, L, .inl T.2.2.2))] := hD
  refine lv_iconst (v := 1) hx hb dX1_lookFor_16 (by decide) ?_
  refine lv_istore (lv' := [(4, .int 1), (3, .int (nI (q_hm T.1 k))), (0, .ref h0), (1, .ref ta), (2, .int k)]) hx hb dX1_lookFor_17 hl (by decide) rfl (fun ls hl => ?_)
  refine lp_X1_lookFor S0 hK hA h0 ra rb ta ma ka va L x0 x3 x4 T k (q_lkE T k) (w + (q_lkD T k + 1)) hn hnL hL (fun H locs ls hP hD hS hl => ?_) (T.1 - 1) (q_hm T.1 k) 1 (w + 1) ⟨by omega, q_hm_lt k (by omega), rfl, by show w + 1 + q_lkD T k = _; omega⟩ H locs ls hP hD hS (lv_sub hl [2, 3, 4, 1, 0] rfl)
  refine lv_iload_n hx hb dX1_lookFor_59 rfl (lv_at hl 3 rfl) ?_
  exact W.iret (v := nI (q_lkE T k)) hx hb hr (fun t ht hW => ⟨⟨_, (), rfl, rfl, by rw [ht]; exact hP, va_K.moved hW.alike hK, hD⟩, hS.F ht⟩) hS.2.2 dX1_lookFor_60
set_option maxHeartbeats 4000000 in
set_option maxRecDepth 100000 in
theorem c_X1_lookUp (l : Launch) (dC : Nat → ClassId) (dI : Nat → Nat → Nat) (cI : ClassId) (h0 t1 m1 k1 v1 t2 m2 k2 v2 L : Nat) (A B : q_TB) (nx : Option Nat) (kc w : Nat) (k : Int32) (sz : Nat) (hSZ : q_SZ L A B) (hkc : kc ≤ 4096) (hc : ∀ c, nx = some c → c < 4096) : Met l yX1_lookUp wsX1_lookUp ({ frames := 3, cells := 0, slots := 0, locals := 68 }) (r_Mc (dC, dI) vwCl [(cI, .int)] [(h0, .inr (1, [.int (nI L), .ref t1, .ref t2, .int (q_nx nx), .int (nI kc), .int (nI w)])), (t1, .inr (0, [.ref m1, .ref k1, .ref v1, .int (nI A.1)])), (m1, .inl (cI, L, .inl A.2.1)), (k1, .inl (cI, L, .inl A.2.2.1)), (v1, .inl (cI, L, .inl A.2.2.2)), (t2, .inr (0, [.ref m2, .ref k2, .ref v2, .int (nI B.1)])), (m2, .inl (cI, L, .inl B.2.1)), (k2, .inl (cI, L, .inl B.2.2.1)), (v2, .inl (cI, L, .inl B.2.2.2))] sz [.ref h0, .int k]) (va_Qi (fun (r : Int32) (_ : Unit) => r = q_place A B nx k) (fun u t => r_B (dC, dI) vwCl [(cI, .int)] (va_A [(h0, .inr (1, [.int (nI L), .ref t1, .ref t2, .int (q_nx nx), .int (nI kc), .int (nI w)])), (t1, .inr (0, [.ref m1, .ref k1, .ref v1, .int (nI A.1)])), (m1, .inl (cI, L, .inl A.2.1)), (k1, .inl (cI, L, .inl A.2.2.1)), (v1, .inl (cI, L, .inl A.2.2.2)), (t2, .inr (0, [.ref m2, .ref k2, .ref v2, .int (nI B.1)])), (m2, .inl (cI, L, .inl B.2.1)), (k2, .inl (cI, L, .inl B.2.2.1)), (v2, .inl (cI, L, .inl B.2.2.2))] sz) ((fun _ => [(h0, .inr (1, [.int (nI L), .ref t1, .ref t2, .int (q_nx nx), .int (nI kc), .int (nI (w + q_lw A B nx k))])), (t1, .inr (0, [.ref m1, .ref k1, .ref v1, .int (nI A.1)])), (m1, .inl (cI, L, .inl A.2.1)), (k1, .inl (cI, L, .inl A.2.2.1)), (v1, .inl (cI, L, .inl A.2.2.2)), (t2, .inr (0, [.ref m2, .ref k2, .ref v2, .int (nI B.1)])), (m2, .inl (cI, L, .inl B.2.1)), (k2, .inl (cI, L, .inl B.2.2.1)), (v2, .inl (cI, L, .inl B.2.2.2))]) u) t) (va_A [(h0, .inr (1, [.int (nI L), .ref t1, .ref t2, .int (q_nx nx), .int (nI kc), .int (nI w)])), (t1, .inr (0, [.ref m1, .ref k1, .ref v1, .int (nI A.1)])), (m1, .inl (cI, L, .inl A.2.1)), (k1, .inl (cI, L, .inl A.2.2.1)), (v1, .inl (cI, L, .inl A.2.2.2)), (t2, .inr (0, [.ref m2, .ref k2, .ref v2, .int (nI B.1)])), (m2, .inl (cI, L, .inl B.2.1)), (k2, .inl (cI, L, .inl B.2.2.1)), (v2, .inl (cI, L, .inl B.2.2.2))] sz)) 0 0 (va_A [(h0, .inr (1, [.int (nI L), .ref t1, .ref t2, .int (q_nx nx), .int (nI kc), .int (nI w)])), (t1, .inr (0, [.ref m1, .ref k1, .ref v1, .int (nI A.1)])), (m1, .inl (cI, L, .inl A.2.1)), (k1, .inl (cI, L, .inl A.2.2.1)), (v1, .inl (cI, L, .inl A.2.2.2)), (t2, .inr (0, [.ref m2, .ref k2, .ref v2, .int (nI B.1)])), (m2, .inl (cI, L, .inl B.2.1)), (k2, .inl (cI, L, .inl B.2.2.1)), (v2, .inl (cI, L, .inl B.2.2.2))] sz) := by
  refine Met.ofW (cc := cX1_lookUp) (maxL := 4) (ret := (some .int)) (by decide) rfl ?_
  intro p e s m args below meth c s₁ Bd hml hv
  obtain ⟨rfl, hsz, hP, hK, hD0⟩ := hv
  have hx := Bd.exec
  have hb := Bd.bytes
  have hr := Bd.returns
  have hts := atoms_spec (ws := wsX1_lookUp) Bd.pre
  have hown : s.vm.findClass RX1 = some m.cls := findClass_of_methodNamed Bd.named
  have hlocks := Bd.notSynchronized
  have S0 : CallFix p m c cX1_lookUp 4 s _ wsX1_lookUp RX1 := ⟨hx, hb, hml, hown, hts⟩
  subst hsz
  have hD := hD0.self (sz := s.heap.size)
  generalize hAe : va_A [(h0, .inr (1, [.int (nI L), .ref t1, .ref t2, .int (q_nx nx), .int (nI kc), .int (nI w)])), (t1, .inr (0, [.ref m1, .ref k1, .ref v1, .int (nI A.1)])), (m1, .inl (cI, L, .inl A.2.1)), (k1, .inl (cI, L, .inl A.2.2.1)), (v1, .inl (cI, L, .inl A.2.2.2)), (t2, .inr (0, [.ref m2, .ref k2, .ref v2, .int (nI B.1)])), (m2, .inl (cI, L, .inl B.2.1)), (k2, .inl (cI, L, .inl B.2.2.1)), (v2, .inl (cI, L, .inl B.2.2.2))] s.heap.size = Aq at hD ⊢
  have hA : ∀ q : Nat, s.heap.size ≤ q → Aq q := fun q h => by rw [← hAe]; exact Or.inr h
  have hS : va_S Aq s.heap s.heap [] := va_S.rf
  have hD : va_D Aq [(h0, .inr (1, [.int (nI L), .ref t1, .ref t2, .int (q_nx nx), .int (nI kc), .int (nI w)])), (t1, .inr (0, [.ref m1, .ref k1, .ref v1, .int (nI A.1)])), (m1, .inl (cI, L, .inl A.2.1)), (k1, .inl (cI, L, .inl A.2.2.1)), (v1, .inl (cI, L, .inl A.2.2.2)), (t2, .inr (0, [.ref m2, .ref k2, .ref v2, .int (nI B.1)])), (m2, .inl (cI, L, .inl B.2.1)), (k2, .inl (cI, L, .inl B.2.2.1)), (v2, .inl (cI, L, .inl B.2.2.2))] := hD
  have hP : va_P (dC, dI) vwCl [(h0, .inr (1, [.int (nI L), .ref t1, .ref t2, .int (q_nx nx), .int (nI kc), .int (nI w)])), (t1, .inr (0, [.ref m1, .ref k1, .ref v1, .int (nI A.1)])), (m1, .inl (cI, L, .inl A.2.1)), (k1, .inl (cI, L, .inl A.2.2.1)), (v1, .inl (cI, L, .inl A.2.2.2)), (t2, .inr (0, [.ref m2, .ref k2, .ref v2, .int (nI B.1)])), (m2, .inl (cI, L, .inl B.2.1)), (k2, .inl (cI, L, .inl B.2.2.1)), (v2, .inl (cI, L, .inl B.2.2.2))] s.heap := hP
  have hl := lv_entry ([.ref h0, .int k]) (n := 4) (Nat.le_of_ble_eq_true rfl)
  rw [lg_entry_eq]
  generalize (lg_sl ([.ref h0, .int k]) ++ List.replicate (4 - (lg_sl ([.ref h0, .int k])).length) Slot.unset).toArray = ls at hl ⊢
  have hl : lv_has ls 4 [(0, .ref h0), (1, .int k)] := hl
  obtain ⟨hLp, hpA, hAL, hpB, hBL⟩ := id hSZ
  have hL := (q_pw_8 hLp).2
  have hA8 := q_pw_8 hpA
  have hB8 := q_pw_8 hpB
  refine lv_aload_n hx hb dX1_lookUp_0 rfl (lv_at hl 0 rfl) ?_
  refine lv_aload_n hx hb dX1_lookUp_1 rfl (lv_at hl 0 rfl) ?_
  refine va_get (D := (dC, dI)) (ci := 1) (v := .ref t1) (C := RX1) (T := TX1) (N := 6) hx hb hts hin_X1_lookUp_X1 hown hK hP 0 rfl rfl 1 (by decide) (hts (.fieldLink RX1 22 "StepMap" "newTable" "LStepMap$Table;") (by decide +kernel)) (fun _ h9 => h9) rfl dX1_lookUp_2 ?_
  refine lv_iload_n hx hb dX1_lookUp_5 rfl (lv_at hl 1 rfl) ?_
  refine r_muI (wr := [(t2, .inr (0, [.ref m2, .ref k2, .ref v2, .int (nI B.1)])), (m2, .inl (cI, L, .inl B.2.1)), (k2, .inl (cI, L, .inl B.2.2.1)), (v2, .inl (cI, L, .inl B.2.2.2))]) (rest := []) S0 (c_X1_lookFor l dC dI cI h0 t1 t2 t1 m1 k1 v1 L (nI L) (q_nx nx) (nI kc) w A k s.heap.size (by assumption) (by omega) (by omega)) (cwV 2 hts gX1_lookUp_X1_lookFor rfl rfl rfl (by decide +kernel) ⟨Nat.le_of_ble_eq_true rfl, Nat.le_of_ble_eq_true rfl⟩) hK hP hD hS hA [0, 1, 2, 3, 4] [5, 6, 7, 8] rfl rfl (by decide) (by decide) (by decide) (ci := 1) (q0 := 0) rfl rfl rfl rfl hl.1 rfl (Nat.le_of_ble_eq_true rfl) dX1_lookUp_6 ⟨Nat.zero_le _, Nat.zero_le _⟩ (fun r_6 _ H locs hu hP hD hS => ?_)
  have hP : va_P (dC, dI) vwCl [(h0, .inr (1, [.int (nI L), .ref t1, .ref t2, .int (q_nx nx), .int (nI kc), .int (nI (w + (q_lkD A k + 1)))])), (t1, .inr (0, [.ref m1, .ref k1, .ref v1, .int (nI A.1)])), (m1, .inl (cI, L, .inl A.2.1)), (k1, .inl (cI, L, .inl A.2.2.1)), (v1, .inl (cI, L, .inl A.2.2.2)), (t2, .inr (0, [.ref m2, .ref k2, .ref v2, .int (nI B.1)])), (m2, .inl (cI, L, .inl B.2.1)), (k2, .inl (cI, L, .inl B.2.2.1)), (v2, .inl (cI, L, .inl B.2.2.2))] H := hP.sub [4, 5, 6, 7, 8, 0, 1, 2, 3] rfl
  have hD : va_D Aq [(h0, .inr (1, [.int (nI L), .ref t1, .ref t2, .int (q_nx nx), .int (nI kc), .int (nI (w + (q_lkD A k + 1)))])), (t1, .inr (0, [.ref m1, .ref k1, .ref v1, .int (nI A.1)])), (m1, .inl (cI, L, .inl A.2.1)), (k1, .inl (cI, L, .inl A.2.2.1)), (v1, .inl (cI, L, .inl A.2.2.2)), (t2, .inr (0, [.ref m2, .ref k2, .ref v2, .int (nI B.1)])), (m2, .inl (cI, L, .inl B.2.1)), (k2, .inl (cI, L, .inl B.2.2.1)), (v2, .inl (cI, L, .inl B.2.2.2))] := hD.sub [4, 5, 6, 7, 8, 0, 1, 2, 3] (by decide) rfl
  have hu : r_6 = nI (q_lkE A k) := hu
  subst hu
  refine lv_istore_n (lv' := [(2, .int (nI (q_lkE A k))), (0, .ref h0), (1, .int k)]) hx hb dX1_lookUp_9 rfl hl (by decide) rfl (fun ls hl => ?_)
  have heA := q_lkE_lt (t := A) k (by omega)
  refine lv_aload_n hx hb dX1_lookUp_10 rfl (lv_at hl 1 rfl) ?_
  refine va_get (D := (dC, dI)) (ci := 1) (v := .ref t1) (C := RX1) (T := TX1) (N := 6) hx hb hts hin_X1_lookUp_X1 hown hK hP 0 rfl rfl 1 (by decide) (hts (.fieldLink RX1 22 "StepMap" "newTable" "LStepMap$Table;") (by decide +kernel)) (fun _ h9 => h9) rfl dX1_lookUp_11 ?_
  refine lv_iload_n hx hb dX1_lookUp_14 rfl (lv_at hl 0 rfl) ?_
  refine lv_iload_n hx hb dX1_lookUp_15 rfl (lv_at hl 2 rfl) ?_
  refine r_roV (rest := []) S0 (c_X0_holds l dC dI cI t1 m1 k1 v1 L A.1 A.2.1 A.2.2.1 A.2.2.2 (q_lkE A k) k (by assumption) (by omega) (by omega) (by omega)) (cwV 2 hts gX1_lookUp_X0_holds rfl rfl rfl (by decide +kernel) ⟨Nat.le_of_ble_eq_true rfl, Nat.le_of_ble_eq_true rfl⟩) hK hP [1, 2, 3, 4] rfl (ci := 0) (q0 := 0) rfl rfl rfl rfl hl.1 rfl (Nat.le_of_ble_eq_true rfl) dX1_lookUp_16 ⟨Nat.zero_le _, Nat.zero_le _⟩ ?_
  refine lv_if_eq (tgt := 24) hx hb dX1_lookUp_19 (by decide) (fun c_19 => ?_) (fun c_19 => ?_)
  · have h_19 : ¬ (A.2.1 (q_lkE A k) = 2 ∧ A.2.2.1 (q_lkE A k) = k) := q_b_0.mp c_19
    refine lv_aload_n hx hb dX1_lookUp_24 rfl (lv_at hl 1 rfl) ?_
    refine r_roV (rest := []) S0 (c_X1_migrating l dC dI cI h0 (nI L) t1 t2 nx (nI kc) (nI (w + (q_lkD A k + 1))) (fun c h => Nat.lt_trans (hc c h) (by decide))) (cwV 0 hts gX1_lookUp_X1_migrating rfl rfl rfl (by decide +kernel) ⟨Nat.le_of_ble_eq_true rfl, Nat.le_of_ble_eq_true rfl⟩) hK hP [0] rfl (ci := 1) (q0 := 0) rfl rfl rfl rfl hl.1 rfl (Nat.le_of_ble_eq_true rfl) dX1_lookUp_25 ⟨Nat.zero_le _, Nat.zero_le _⟩ ?_
    refine lv_if_eq (tgt := 59) hx hb dX1_lookUp_28 (by decide) (fun c_28 => ?_) (fun c_28 => ?_)
    · have h_28 : ¬ (nx.isSome = true) := q_b_0.mp c_28
      refine lv_iconst (v := -1) hx hb dX1_lookUp_59 (by decide) ?_
      refine lv_iload_n hx hb dX1_lookUp_60 rfl (lv_at hl 0 rfl) ?_
      refine lv_isub hx hb dX1_lookUp_61 ?_
      have e_0_5 : nI (w + (q_lkD A k + 1)) = nI (w + q_lw A B nx k) := by rw [q_lw_N h_19 h_28]
      have hP : va_P (dC, dI) vwCl [(h0, .inr (1, [.int (nI L), .ref t1, .ref t2, .int (q_nx nx), .int (nI kc), .int (nI (w + q_lw A B nx k))])), (t1, .inr (0, [.ref m1, .ref k1, .ref v1, .int (nI A.1)])), (m1, .inl (cI, L, .inl A.2.1)), (k1, .inl (cI, L, .inl A.2.2.1)), (v1, .inl (cI, L, .inl A.2.2.2)), (t2, .inr (0, [.ref m2, .ref k2, .ref v2, .int (nI B.1)])), (m2, .inl (cI, L, .inl B.2.1)), (k2, .inl (cI, L, .inl B.2.2.1)), (v2, .inl (cI, L, .inl B.2.2.2))] H := by rw [← e_0_5]; exact hP
      have hD : va_D Aq [(h0, .inr (1, [.int (nI L), .ref t1, .ref t2, .int (q_nx nx), .int (nI kc), .int (nI (w + q_lw A B nx k))])), (t1, .inr (0, [.ref m1, .ref k1, .ref v1, .int (nI A.1)])), (m1, .inl (cI, L, .inl A.2.1)), (k1, .inl (cI, L, .inl A.2.2.1)), (v1, .inl (cI, L, .inl A.2.2.2)), (t2, .inr (0, [.ref m2, .ref k2, .ref v2, .int (nI B.1)])), (m2, .inl (cI, L, .inl B.2.1)), (k2, .inl (cI, L, .inl B.2.2.1)), (v2, .inl (cI, L, .inl B.2.2.2))] := by rw [← e_0_5]; exact hD
      exact W.iret (v := (-1) - (nI (q_lkE A k))) hx hb hr (fun t ht hW => ⟨⟨_, (), rfl, (q_place_N h_19 (fun z => h_28 z.1)).symm, by rw [ht]; exact hP, va_K.moved hW.alike hK, hD⟩, hS.F ht⟩) hS.2.2 dX1_lookUp_62
    · have h_28 : (nx.isSome = true) := q_b_n0 c_28
      refine lv_aload_n hx hb dX1_lookUp_31 rfl (lv_at hl 1 rfl) ?_
      refine lv_aload_n hx hb dX1_lookUp_32 rfl (lv_at hl 1 rfl) ?_
      refine va_get (D := (dC, dI)) (ci := 1) (v := .ref t2) (C := RX1) (T := TX1) (N := 6) hx hb hts hin_X1_lookUp_X1 hown hK hP 0 rfl rfl 2 (by decide) (hts (.fieldLink RX1 26 "StepMap" "oldTable" "LStepMap$Table;") (by decide +kernel)) (fun _ h9 => h9) rfl dX1_lookUp_33 ?_
      refine lv_iload_n hx hb dX1_lookUp_36 rfl (lv_at hl 2 rfl) ?_
      refine r_muI (wr := [(t1, .inr (0, [.ref m1, .ref k1, .ref v1, .int (nI A.1)])), (m1, .inl (cI, L, .inl A.2.1)), (k1, .inl (cI, L, .inl A.2.2.1)), (v1, .inl (cI, L, .inl A.2.2.2))]) (rest := []) S0 (c_X1_lookFor l dC dI cI h0 t1 t2 t2 m2 k2 v2 L (nI L) (q_nx nx) (nI kc) (w + (q_lkD A k + 1)) B k H.size (by assumption) (by omega) (by omega)) (cwV 2 hts gX1_lookUp_X1_lookFor rfl rfl rfl (by decide +kernel) ⟨Nat.le_of_ble_eq_true rfl, Nat.le_of_ble_eq_true rfl⟩) hK hP hD hS hA [0, 5, 6, 7, 8] [1, 2, 3, 4] rfl rfl (by decide) (by decide) (by decide) (ci := 1) (q0 := 0) rfl rfl rfl rfl hl.1 rfl (Nat.le_of_ble_eq_true rfl) dX1_lookUp_37 ⟨Nat.zero_le _, Nat.zero_le _⟩ (fun r_37 _ H locs hu hP hD hS => ?_)
      have hP : va_P (dC, dI) vwCl [(h0, .inr (1, [.int (nI L), .ref t1, .ref t2, .int (q_nx nx), .int (nI kc), .int (nI ((w + (q_lkD A k + 1)) + (q_lkD B k + 1)))])), (t1, .inr (0, [.ref m1, .ref k1, .ref v1, .int (nI A.1)])), (m1, .inl (cI, L, .inl A.2.1)), (k1, .inl (cI, L, .inl A.2.2.1)), (v1, .inl (cI, L, .inl A.2.2.2)), (t2, .inr (0, [.ref m2, .ref k2, .ref v2, .int (nI B.1)])), (m2, .inl (cI, L, .inl B.2.1)), (k2, .inl (cI, L, .inl B.2.2.1)), (v2, .inl (cI, L, .inl B.2.2.2))] H := hP.sub [4, 0, 1, 2, 3, 5, 6, 7, 8] rfl
      have hD : va_D Aq [(h0, .inr (1, [.int (nI L), .ref t1, .ref t2, .int (q_nx nx), .int (nI kc), .int (nI ((w + (q_lkD A k + 1)) + (q_lkD B k + 1)))])), (t1, .inr (0, [.ref m1, .ref k1, .ref v1, .int (nI A.1)])), (m1, .inl (cI, L, .inl A.2.1)), (k1, .inl (cI, L, .inl A.2.2.1)), (v1, .inl (cI, L, .inl A.2.2.2)), (t2, .inr (0, [.ref m2, .ref k2, .ref v2, .int (nI B.1)])), (m2, .inl (cI, L, .inl B.2.1)), (k2, .inl (cI, L, .inl B.2.2.1)), (v2, .inl (cI, L, .inl B.2.2.2))] := hD.sub [4, 0, 1, 2, 3, 5, 6, 7, 8] (by decide) rfl
      have hu : r_37 = nI (q_lkE B k) := hu
      subst hu
      refine lv_istore_n (lv' := [(3, .int (nI (q_lkE B k))), (2, .int (nI (q_lkE A k))), (0, .ref h0), (1, .int k)]) hx hb dX1_lookUp_40 rfl hl (by decide) rfl (fun ls hl => ?_)
      have heB := q_lkE_lt (t := B) k (by omega)
      refine lv_aload_n hx hb dX1_lookUp_41 rfl (lv_at hl 2 rfl) ?_
      refine va_get (D := (dC, dI)) (ci := 1) (v := .ref t2) (C := RX1) (T := TX1) (N := 6) hx hb hts hin_X1_lookUp_X1 hown hK hP 0 rfl rfl 2 (by decide) (hts (.fieldLink RX1 26 "StepMap" "oldTable" "LStepMap$Table;") (by decide +kernel)) (fun _ h9 => h9) rfl dX1_lookUp_42 ?_
      refine lv_iload_n hx hb dX1_lookUp_45 rfl (lv_at hl 0 rfl) ?_
      refine lv_iload_n hx hb dX1_lookUp_46 rfl (lv_at hl 3 rfl) ?_
      refine r_roV (rest := []) S0 (c_X0_holds l dC dI cI t2 m2 k2 v2 L B.1 B.2.1 B.2.2.1 B.2.2.2 (q_lkE B k) k (by assumption) (by omega) (by omega) (by omega)) (cwV 2 hts gX1_lookUp_X0_holds rfl rfl rfl (by decide +kernel) ⟨Nat.le_of_ble_eq_true rfl, Nat.le_of_ble_eq_true rfl⟩) hK hP [5, 6, 7, 8] rfl (ci := 0) (q0 := 0) rfl rfl rfl rfl hl.1 rfl (Nat.le_of_ble_eq_true rfl) dX1_lookUp_47 ⟨Nat.zero_le _, Nat.zero_le _⟩ ?_
      refine lv_if_eq (tgt := 59) hx hb dX1_lookUp_50 (by decide) (fun c_50 => ?_) (fun c_50 => ?_)
      · have h_50 : ¬ (B.2.1 (q_lkE B k) = 2 ∧ B.2.2.1 (q_lkE B k) = k) := q_b_0.mp c_50
        refine lv_iconst (v := -1) hx hb dX1_lookUp_59 (by decide) ?_
        refine lv_iload_n hx hb dX1_lookUp_60 rfl (lv_at hl 1 rfl) ?_
        refine lv_isub hx hb dX1_lookUp_61 ?_
        have e_0_5 : nI ((w + (q_lkD A k + 1)) + (q_lkD B k + 1)) = nI (w + q_lw A B nx k) := by rw [q_lw_B h_19 h_28]; exact congrArg nI (by omega)
        have hP : va_P (dC, dI) vwCl [(h0, .inr (1, [.int (nI L), .ref t1, .ref t2, .int (q_nx nx), .int (nI kc), .int (nI (w + q_lw A B nx k))])), (t1, .inr (0, [.ref m1, .ref k1, .ref v1, .int (nI A.1)])), (m1, .inl (cI, L, .inl A.2.1)), (k1, .inl (cI, L, .inl A.2.2.1)), (v1, .inl (cI, L, .inl A.2.2.2)), (t2, .inr (0, [.ref m2, .ref k2, .ref v2, .int (nI B.1)])), (m2, .inl (cI, L, .inl B.2.1)), (k2, .inl (cI, L, .inl B.2.2.1)), (v2, .inl (cI, L, .inl B.2.2.2))] H := by rw [← e_0_5]; exact hP
        have hD : va_D Aq [(h0, .inr (1, [.int (nI L), .ref t1, .ref t2, .int (q_nx nx), .int (nI kc), .int (nI (w + q_lw A B nx k))])), (t1, .inr (0, [.ref m1, .ref k1, .ref v1, .int (nI A.1)])), (m1, .inl (cI, L, .inl A.2.1)), (k1, .inl (cI, L, .inl A.2.2.1)), (v1, .inl (cI, L, .inl A.2.2.2)), (t2, .inr (0, [.ref m2, .ref k2, .ref v2, .int (nI B.1)])), (m2, .inl (cI, L, .inl B.2.1)), (k2, .inl (cI, L, .inl B.2.2.1)), (v2, .inl (cI, L, .inl B.2.2.2))] := by rw [← e_0_5]; exact hD
        exact W.iret (v := (-1) - (nI (q_lkE A k))) hx hb hr (fun t ht hW => ⟨⟨_, (), rfl, (q_place_N h_19 (fun z => h_50 z.2)).symm, by rw [ht]; exact hP, va_K.moved hW.alike hK, hD⟩, hS.F ht⟩) hS.2.2 dX1_lookUp_62
      · have h_50 : (B.2.1 (q_lkE B k) = 2 ∧ B.2.2.1 (q_lkE B k) = k) := q_b_n0 c_50
        refine lv_sipush (v := 2000) hx hb dX1_lookUp_53 (by decide) ?_
        refine lv_iload_n hx hb dX1_lookUp_56 rfl (lv_at hl 0 rfl) ?_
        refine lv_iadd hx hb dX1_lookUp_57 ?_
        refine r_eq (z := nI (2000 + (q_lkE B k))) (nI_add 2000 (q_lkE B k)) ?_
        have e_0_5 : nI ((w + (q_lkD A k + 1)) + (q_lkD B k + 1)) = nI (w + q_lw A B nx k) := by rw [q_lw_B h_19 h_28]; exact congrArg nI (by omega)
        have hP : va_P (dC, dI) vwCl [(h0, .inr (1, [.int (nI L), .ref t1, .ref t2, .int (q_nx nx), .int (nI kc), .int (nI (w + q_lw A B nx k))])), (t1, .inr (0, [.ref m1, .ref k1, .ref v1, .int (nI A.1)])), (m1, .inl (cI, L, .inl A.2.1)), (k1, .inl (cI, L, .inl A.2.2.1)), (v1, .inl (cI, L, .inl A.2.2.2)), (t2, .inr (0, [.ref m2, .ref k2, .ref v2, .int (nI B.1)])), (m2, .inl (cI, L, .inl B.2.1)), (k2, .inl (cI, L, .inl B.2.2.1)), (v2, .inl (cI, L, .inl B.2.2.2))] H := by rw [← e_0_5]; exact hP
        have hD : va_D Aq [(h0, .inr (1, [.int (nI L), .ref t1, .ref t2, .int (q_nx nx), .int (nI kc), .int (nI (w + q_lw A B nx k))])), (t1, .inr (0, [.ref m1, .ref k1, .ref v1, .int (nI A.1)])), (m1, .inl (cI, L, .inl A.2.1)), (k1, .inl (cI, L, .inl A.2.2.1)), (v1, .inl (cI, L, .inl A.2.2.2)), (t2, .inr (0, [.ref m2, .ref k2, .ref v2, .int (nI B.1)])), (m2, .inl (cI, L, .inl B.2.1)), (k2, .inl (cI, L, .inl B.2.2.1)), (v2, .inl (cI, L, .inl B.2.2.2))] := by rw [← e_0_5]; exact hD
        exact W.iret (v := nI (2000 + (q_lkE B k))) hx hb hr (fun t ht hW => ⟨⟨_, (), rfl, (q_place_B h_19 ⟨h_28, h_50⟩).symm, by rw [ht]; exact hP, va_K.moved hW.alike hK, hD⟩, hS.F ht⟩) hS.2.2 dX1_lookUp_58
  · have h_19 : (A.2.1 (q_lkE A k) = 2 ∧ A.2.2.1 (q_lkE A k) = k) := q_b_n0 c_19
    refine lv_iload_n hx hb dX1_lookUp_22 rfl (lv_at hl 0 rfl) ?_
    have e_0_5 : nI (w + (q_lkD A k + 1)) = nI (w + q_lw A B nx k) := by rw [q_lw_A h_19]
    have hP : va_P (dC, dI) vwCl [(h0, .inr (1, [.int (nI L), .ref t1, .ref t2, .int (q_nx nx), .int (nI kc), .int (nI (w + q_lw A B nx k))])), (t1, .inr (0, [.ref m1, .ref k1, .ref v1, .int (nI A.1)])), (m1, .inl (cI, L, .inl A.2.1)), (k1, .inl (cI, L, .inl A.2.2.1)), (v1, .inl (cI, L, .inl A.2.2.2)), (t2, .inr (0, [.ref m2, .ref k2, .ref v2, .int (nI B.1)])), (m2, .inl (cI, L, .inl B.2.1)), (k2, .inl (cI, L, .inl B.2.2.1)), (v2, .inl (cI, L, .inl B.2.2.2))] H := by rw [← e_0_5]; exact hP
    have hD : va_D Aq [(h0, .inr (1, [.int (nI L), .ref t1, .ref t2, .int (q_nx nx), .int (nI kc), .int (nI (w + q_lw A B nx k))])), (t1, .inr (0, [.ref m1, .ref k1, .ref v1, .int (nI A.1)])), (m1, .inl (cI, L, .inl A.2.1)), (k1, .inl (cI, L, .inl A.2.2.1)), (v1, .inl (cI, L, .inl A.2.2.2)), (t2, .inr (0, [.ref m2, .ref k2, .ref v2, .int (nI B.1)])), (m2, .inl (cI, L, .inl B.2.1)), (k2, .inl (cI, L, .inl B.2.2.1)), (v2, .inl (cI, L, .inl B.2.2.2))] := by rw [← e_0_5]; exact hD
    exact W.iret (v := nI (q_lkE A k)) hx hb hr (fun t ht hW => ⟨⟨_, (), rfl, (q_place_A h_19).symm, by rw [ht]; exact hP, va_K.moved hW.alike hK, hD⟩, hS.F ht⟩) hS.2.2 dX1_lookUp_23
set_option maxHeartbeats 4000000 in
set_option maxRecDepth 100000 in
theorem c_X1_wouldOutgrowHalf (l : Launch) (dC : Nat → ClassId) (dI : Nat → Nat → Nat) (cI : ClassId) (h0 t1 m1 k1 v1 t2 m2 k2 v2 L : Nat) (A B : q_TB) (nx : Option Nat) (kc w : Nat) (hSZ : q_SZ L A B) (hkc : kc ≤ 4096) (hc : ∀ c, nx = some c → c < 4096) : Met l yX1_wouldOutgrowHalf wsX1_wouldOutgrowHalf ({ frames := 1, cells := 0, slots := 0, locals := 21 }) (r_Pc (dC, dI) vwCl [(cI, .int)] [(h0, .inr (1, [.int (nI L), .ref t1, .ref t2, .int (q_nx nx), .int (nI kc), .int (nI w)])), (t1, .inr (0, [.ref m1, .ref k1, .ref v1, .int (nI A.1)])), (m1, .inl (cI, L, .inl A.2.1)), (k1, .inl (cI, L, .inl A.2.2.1)), (v1, .inl (cI, L, .inl A.2.2.2)), (t2, .inr (0, [.ref m2, .ref k2, .ref v2, .int (nI B.1)])), (m2, .inl (cI, L, .inl B.2.1)), (k2, .inl (cI, L, .inl B.2.2.1)), (v2, .inl (cI, L, .inl B.2.2.2))] [.ref h0]) (vp_Si (fun r => r = q_b (q_full L A B nx kc))) 0 0 (fun _ => False) := by
  refine Met.ofW (cc := cX1_wouldOutgrowHalf) (maxL := 2) (ret := (some .boolean)) (by decide) rfl ?_
  intro p e s m args below meth c s₁ Bd hml hv
  obtain ⟨rfl, hP, hK⟩ := hv
  have hx := Bd.exec
  have hb := Bd.bytes
  have hr := Bd.returns
  have hts := atoms_spec (ws := wsX1_wouldOutgrowHalf) Bd.pre
  have hown : s.vm.findClass RX1 = some m.cls := findClass_of_methodNamed Bd.named
  have hlocks := Bd.notSynchronized
  have S0 : CallFix p m c cX1_wouldOutgrowHalf 2 s _ wsX1_wouldOutgrowHalf RX1 := ⟨hx, hb, hml, hown, hts⟩
  have hP : va_P (dC, dI) vwCl [(h0, .inr (1, [.int (nI L), .ref t1, .ref t2, .int (q_nx nx), .int (nI kc), .int (nI w)])), (t1, .inr (0, [.ref m1, .ref k1, .ref v1, .int (nI A.1)])), (m1, .inl (cI, L, .inl A.2.1)), (k1, .inl (cI, L, .inl A.2.2.1)), (v1, .inl (cI, L, .inl A.2.2.2)), (t2, .inr (0, [.ref m2, .ref k2, .ref v2, .int (nI B.1)])), (m2, .inl (cI, L, .inl B.2.1)), (k2, .inl (cI, L, .inl B.2.2.1)), (v2, .inl (cI, L, .inl B.2.2.2))] s.heap := hP
  have hl := lv_entry ([.ref h0]) (n := 2) (Nat.le_of_ble_eq_true rfl)
  rw [lg_entry_eq]
  generalize (lg_sl ([.ref h0]) ++ List.replicate (2 - (lg_sl ([.ref h0])).length) Slot.unset).toArray = ls at hl ⊢
  have hl : lv_has ls 2 [(0, .ref h0)] := hl
  obtain ⟨hLp, hpA, hAL, hpB, hBL⟩ := id hSZ
  have hL := (q_pw_8 hLp).2
  have hA8 := q_pw_8 hpA
  have hB8 := q_pw_8 hpB
  refine lv_aload_n hx hb dX1_wouldOutgrowHalf_0 rfl (lv_at hl 0 rfl) ?_
  refine r_roV (rest := []) S0 (c_X1_migrating l dC dI cI h0 (nI L) t1 t2 nx (nI kc) (nI w) (fun c h => Nat.lt_trans (hc c h) (by decide))) (cwV 0 hts gX1_wouldOutgrowHalf_X1_migrating rfl rfl rfl (by decide +kernel) ⟨Nat.le_of_ble_eq_true rfl, Nat.le_of_ble_eq_true rfl⟩) hK hP [0] rfl (ci := 1) (q0 := 0) rfl rfl rfl rfl hl.1 rfl (Nat.le_of_ble_eq_true rfl) dX1_wouldOutgrowHalf_1 ⟨Nat.zero_le _, Nat.zero_le _⟩ ?_
  refine lv_if_eq (tgt := 27) hx hb dX1_wouldOutgrowHalf_4 (by decide) (fun c_4 => ?_) (fun c_4 => ?_)
  · have h_4 : ¬ (nx.isSome = true) := q_b_0.mp c_4
    refine lv_iconst (v := 0) hx hb dX1_wouldOutgrowHalf_27 (by decide) ?_
    refine lv_istore_n (lv' := [(1, .int 0), (0, .ref h0)]) hx hb dX1_wouldOutgrowHalf_28 rfl hl (by decide) rfl (fun ls hl => ?_)
    refine lv_iload_n hx hb dX1_wouldOutgrowHalf_29 rfl (lv_at hl 0 rfl) ?_
    refine lv_if_ne (tgt := 66) hx hb dX1_wouldOutgrowHalf_30 (by decide) (fun c_30 => ?_) (fun c_30 => ?_)
    · have h_30 := q_eq_f (a := 0) (b := 0) (by omega) (by omega) c_30
      omega
    · have h_30 := q_eq_t (a := 0) (b := 0) (by omega) (by omega) c_30
      refine lv_aload_n hx hb dX1_wouldOutgrowHalf_33 rfl (lv_at hl 1 rfl) ?_
      refine lv_aload_n hx hb dX1_wouldOutgrowHalf_34 rfl (lv_at hl 1 rfl) ?_
      refine va_get (D := (dC, dI)) (ci := 1) (v := .int (nI kc)) (C := RX1) (T := TX1) (N := 6) hx hb hts hin_X1_wouldOutgrowHalf_X1 hown hK hP 0 rfl rfl 4 (by decide) (hts (.fieldLink RX1 57 "StepMap" "keyCount" "I") (by decide +kernel)) (fun _ h9 => h9) rfl dX1_wouldOutgrowHalf_35 ?_
      refine lv_iconst (v := 1) hx hb dX1_wouldOutgrowHalf_38 (by decide) ?_
      refine lv_iadd hx hb dX1_wouldOutgrowHalf_39 ?_
      refine r_eq (z := nI (kc + 1)) (nI_add kc 1) ?_
      refine r_roV (rest := []) S0 (c_X1_isCrowdedBy l dC dI cI h0 t1 (nI L) t2 (q_nx nx) (nI kc) (nI w) m1 k1 v1 A.1 (kc + 1) (by omega) (by omega)) (cwV 1 hts gX1_wouldOutgrowHalf_X1_isCrowdedBy rfl rfl rfl (by decide +kernel) ⟨Nat.le_of_ble_eq_true rfl, Nat.le_of_ble_eq_true rfl⟩) hK hP [0, 1] rfl (ci := 1) (q0 := 0) rfl rfl rfl rfl hl.1 rfl (Nat.le_of_ble_eq_true rfl) dX1_wouldOutgrowHalf_40 ⟨Nat.zero_le _, Nat.zero_le _⟩ ?_
      refine lv_if_eq (tgt := 66) hx hb dX1_wouldOutgrowHalf_43 (by decide) (fun c_43 => ?_) (fun c_43 => ?_)
      · have h_43 : ¬ (3 * A.1 ≤ 4 * (kc + 1)) := q_b_0.mp c_43
        refine lv_iconst (v := 0) hx hb dX1_wouldOutgrowHalf_66 (by decide) ?_
        exact W.zret (v := 0) hx hb hr (rfl) (fun t ht hW => ⟨_, rfl, (q_b_f (fun z => h_43 z.2.1)).symm, ht⟩) (fun _ h => by cases h) dX1_wouldOutgrowHalf_67
      · have h_43 : (3 * A.1 ≤ 4 * (kc + 1)) := q_b_n0 c_43
        refine lv_aload_n hx hb dX1_wouldOutgrowHalf_46 rfl (lv_at hl 1 rfl) ?_
        refine va_get (D := (dC, dI)) (ci := 1) (v := .ref t1) (C := RX1) (T := TX1) (N := 6) hx hb hts hin_X1_wouldOutgrowHalf_X1 hown hK hP 0 rfl rfl 1 (by decide) (hts (.fieldLink RX1 22 "StepMap" "newTable" "LStepMap$Table;") (by decide +kernel)) (fun _ h9 => h9) rfl dX1_wouldOutgrowHalf_47 ?_
        refine va_get (D := (dC, dI)) (ci := 0) (v := .int (nI A.1)) (C := RX0) (T := TX0) (N := 4) hx hb hts hin_X1_wouldOutgrowHalf_X0 hown hK hP 1 rfl rfl 3 (by decide) (hts (.fieldLink RX1 69 "StepMap$Table" "slots" "I") (by decide +kernel)) (fun _ h9 => h9) rfl dX1_wouldOutgrowHalf_50 ?_
        refine lv_iconst (v := 2) hx hb dX1_wouldOutgrowHalf_53 (by decide) ?_
        refine lv_imul hx hb dX1_wouldOutgrowHalf_54 ?_
        refine r_eq (z := nI (A.1 * 2)) (pk_mul A.1 2) ?_
        refine lv_aload_n hx hb dX1_wouldOutgrowHalf_55 rfl (lv_at hl 1 rfl) ?_
        refine va_get (D := (dC, dI)) (ci := 1) (v := .int (nI L)) (C := RX1) (T := TX1) (N := 6) hx hb hts hin_X1_wouldOutgrowHalf_X1 hown hK hP 0 rfl rfl 0 (by decide) (hts (.fieldLink RX1 13 "StepMap" "half" "I") (by decide +kernel)) (fun _ h9 => h9) rfl dX1_wouldOutgrowHalf_56 ?_
        refine lv_icmp_le (tgt := 66) hx hb dX1_wouldOutgrowHalf_59 (by decide) (fun c_59 => ?_) (fun c_59 => ?_)
        · have h_59 := q_le_t (a := A.1 * 2) (b := L) (by omega) (by omega) c_59
          refine lv_iconst (v := 0) hx hb dX1_wouldOutgrowHalf_66 (by decide) ?_
          exact W.zret (v := 0) hx hb hr (rfl) (fun t ht hW => ⟨_, rfl, (q_b_f (fun z => by have := z.2.2; omega)).symm, ht⟩) (fun _ h => by cases h) dX1_wouldOutgrowHalf_67
        · have h_59 := q_le_f (a := A.1 * 2) (b := L) (by omega) (by omega) c_59
          refine lv_iconst (v := 1) hx hb dX1_wouldOutgrowHalf_62 (by decide) ?_
          refine lv_goto (tgt := 67) hx hb dX1_wouldOutgrowHalf_63 (by decide) ?_
          exact W.zret (v := 1) hx hb hr (rfl) (fun t ht hW => ⟨_, rfl, (q_b_t ⟨fun y => Exists.elim y fun c z => h_4 (by rw [z.1]; rfl), h_43, by omega⟩).symm, ht⟩) (fun _ h => by cases h) dX1_wouldOutgrowHalf_67
  · have h_4 : (nx.isSome = true) := q_b_n0 c_4
    obtain ⟨c, hcc⟩ := Option.isSome_iff_exists.mp h_4
    subst hcc
    have hcb := hc c rfl
    have hP : va_P (dC, dI) vwCl [(h0, .inr (1, [.int (nI L), .ref t1, .ref t2, .int (nI c), .int (nI kc), .int (nI w)])), (t1, .inr (0, [.ref m1, .ref k1, .ref v1, .int (nI A.1)])), (m1, .inl (cI, L, .inl A.2.1)), (k1, .inl (cI, L, .inl A.2.2.1)), (v1, .inl (cI, L, .inl A.2.2.2)), (t2, .inr (0, [.ref m2, .ref k2, .ref v2, .int (nI B.1)])), (m2, .inl (cI, L, .inl B.2.1)), (k2, .inl (cI, L, .inl B.2.2.1)), (v2, .inl (cI, L, .inl B.2.2.2))] s.heap := hP
    refine lv_aload_n hx hb dX1_wouldOutgrowHalf_7 rfl (lv_at hl 0 rfl) ?_
    refine va_get (D := (dC, dI)) (ci := 1) (v := .int (nI c)) (C := RX1) (T := TX1) (N := 6) hx hb hts hin_X1_wouldOutgrowHalf_X1 hown hK hP 0 rfl rfl 3 (by decide) (hts (.fieldLink RX1 32 "StepMap" "nextToMove" "I") (by decide +kernel)) (fun _ h9 => h9) rfl dX1_wouldOutgrowHalf_8 ?_
    refine lv_iconst (v := 4) hx hb dX1_wouldOutgrowHalf_11 (by decide) ?_
    refine lv_iadd hx hb dX1_wouldOutgrowHalf_12 ?_
    refine r_eq (z := nI (c + 4)) (nI_add c 4) ?_
    refine lv_aload_n hx hb dX1_wouldOutgrowHalf_13 rfl (lv_at hl 0 rfl) ?_
    refine va_get (D := (dC, dI)) (ci := 1) (v := .ref t2) (C := RX1) (T := TX1) (N := 6) hx hb hts hin_X1_wouldOutgrowHalf_X1 hown hK hP 0 rfl rfl 2 (by decide) (hts (.fieldLink RX1 26 "StepMap" "oldTable" "LStepMap$Table;") (by decide +kernel)) (fun _ h9 => h9) rfl dX1_wouldOutgrowHalf_14 ?_
    refine va_get (D := (dC, dI)) (ci := 0) (v := .int (nI B.1)) (C := RX0) (T := TX0) (N := 4) hx hb hts hin_X1_wouldOutgrowHalf_X0 hown hK hP 5 rfl rfl 3 (by decide) (hts (.fieldLink RX1 69 "StepMap$Table" "slots" "I") (by decide +kernel)) (fun _ h9 => h9) rfl dX1_wouldOutgrowHalf_17 ?_
    refine lv_icmp_ge (tgt := 27) hx hb dX1_wouldOutgrowHalf_20 (by decide) (fun c_20 => ?_) (fun c_20 => ?_)
    · have h_20 := q_le_t (a := B.1) (b := c + 4) (by omega) (by omega) c_20
      refine lv_iconst (v := 0) hx hb dX1_wouldOutgrowHalf_27 (by decide) ?_
      refine lv_istore_n (lv' := [(1, .int 0), (0, .ref h0)]) hx hb dX1_wouldOutgrowHalf_28 rfl hl (by decide) rfl (fun ls hl => ?_)
      refine lv_iload_n hx hb dX1_wouldOutgrowHalf_29 rfl (lv_at hl 0 rfl) ?_
      refine lv_if_ne (tgt := 66) hx hb dX1_wouldOutgrowHalf_30 (by decide) (fun c_30 => ?_) (fun c_30 => ?_)
      · have h_30 := q_eq_f (a := 0) (b := 0) (by omega) (by omega) c_30
        omega
      · have h_30 := q_eq_t (a := 0) (b := 0) (by omega) (by omega) c_30
        refine lv_aload_n hx hb dX1_wouldOutgrowHalf_33 rfl (lv_at hl 1 rfl) ?_
        refine lv_aload_n hx hb dX1_wouldOutgrowHalf_34 rfl (lv_at hl 1 rfl) ?_
        refine va_get (D := (dC, dI)) (ci := 1) (v := .int (nI kc)) (C := RX1) (T := TX1) (N := 6) hx hb hts hin_X1_wouldOutgrowHalf_X1 hown hK hP 0 rfl rfl 4 (by decide) (hts (.fieldLink RX1 57 "StepMap" "keyCount" "I") (by decide +kernel)) (fun _ h9 => h9) rfl dX1_wouldOutgrowHalf_35 ?_
        refine lv_iconst (v := 1) hx hb dX1_wouldOutgrowHalf_38 (by decide) ?_
        refine lv_iadd hx hb dX1_wouldOutgrowHalf_39 ?_
        refine r_eq (z := nI (kc + 1)) (nI_add kc 1) ?_
        refine r_roV (rest := []) S0 (c_X1_isCrowdedBy l dC dI cI h0 t1 (nI L) t2 (nI c) (nI kc) (nI w) m1 k1 v1 A.1 (kc + 1) (by omega) (by omega)) (cwV 1 hts gX1_wouldOutgrowHalf_X1_isCrowdedBy rfl rfl rfl (by decide +kernel) ⟨Nat.le_of_ble_eq_true rfl, Nat.le_of_ble_eq_true rfl⟩) hK hP [0, 1] rfl (ci := 1) (q0 := 0) rfl rfl rfl rfl hl.1 rfl (Nat.le_of_ble_eq_true rfl) dX1_wouldOutgrowHalf_40 ⟨Nat.zero_le _, Nat.zero_le _⟩ ?_
        refine lv_if_eq (tgt := 66) hx hb dX1_wouldOutgrowHalf_43 (by decide) (fun c_43 => ?_) (fun c_43 => ?_)
        · have h_43 : ¬ (3 * A.1 ≤ 4 * (kc + 1)) := q_b_0.mp c_43
          refine lv_iconst (v := 0) hx hb dX1_wouldOutgrowHalf_66 (by decide) ?_
          exact W.zret (v := 0) hx hb hr (rfl) (fun t ht hW => ⟨_, rfl, (q_b_f (fun z => h_43 z.2.1)).symm, ht⟩) (fun _ h => by cases h) dX1_wouldOutgrowHalf_67
        · have h_43 : (3 * A.1 ≤ 4 * (kc + 1)) := q_b_n0 c_43
          refine lv_aload_n hx hb dX1_wouldOutgrowHalf_46 rfl (lv_at hl 1 rfl) ?_
          refine va_get (D := (dC, dI)) (ci := 1) (v := .ref t1) (C := RX1) (T := TX1) (N := 6) hx hb hts hin_X1_wouldOutgrowHalf_X1 hown hK hP 0 rfl rfl 1 (by decide) (hts (.fieldLink RX1 22 "StepMap" "newTable" "LStepMap$Table;") (by decide +kernel)) (fun _ h9 => h9) rfl dX1_wouldOutgrowHalf_47 ?_
          refine va_get (D := (dC, dI)) (ci := 0) (v := .int (nI A.1)) (C := RX0) (T := TX0) (N := 4) hx hb hts hin_X1_wouldOutgrowHalf_X0 hown hK hP 1 rfl rfl 3 (by decide) (hts (.fieldLink RX1 69 "StepMap$Table" "slots" "I") (by decide +kernel)) (fun _ h9 => h9) rfl dX1_wouldOutgrowHalf_50 ?_
          refine lv_iconst (v := 2) hx hb dX1_wouldOutgrowHalf_53 (by decide) ?_
          refine lv_imul hx hb dX1_wouldOutgrowHalf_54 ?_
          refine r_eq (z := nI (A.1 * 2)) (pk_mul A.1 2) ?_
          refine lv_aload_n hx hb dX1_wouldOutgrowHalf_55 rfl (lv_at hl 1 rfl) ?_
          refine va_get (D := (dC, dI)) (ci := 1) (v := .int (nI L)) (C := RX1) (T := TX1) (N := 6) hx hb hts hin_X1_wouldOutgrowHalf_X1 hown hK hP 0 rfl rfl 0 (by decide) (hts (.fieldLink RX1 13 "StepMap" "half" "I") (by decide +kernel)) (fun _ h9 => h9) rfl dX1_wouldOutgrowHalf_56 ?_
          refine lv_icmp_le (tgt := 66) hx hb dX1_wouldOutgrowHalf_59 (by decide) (fun c_59 => ?_) (fun c_59 => ?_)
          · have h_59 := q_le_t (a := A.1 * 2) (b := L) (by omega) (by omega) c_59
            refine lv_iconst (v := 0) hx hb dX1_wouldOutgrowHalf_66 (by decide) ?_
            exact W.zret (v := 0) hx hb hr (rfl) (fun t ht hW => ⟨_, rfl, (q_b_f (fun z => by have := z.2.2; omega)).symm, ht⟩) (fun _ h => by cases h) dX1_wouldOutgrowHalf_67
          · have h_59 := q_le_f (a := A.1 * 2) (b := L) (by omega) (by omega) c_59
            refine lv_iconst (v := 1) hx hb dX1_wouldOutgrowHalf_62 (by decide) ?_
            refine lv_goto (tgt := 67) hx hb dX1_wouldOutgrowHalf_63 (by decide) ?_
            exact W.zret (v := 1) hx hb hr (rfl) (fun t ht hW => ⟨_, rfl, (q_b_t ⟨fun y => Exists.elim y fun c2 z => by obtain ⟨z1, z2⟩ := z; cases z1; omega, h_43, by omega⟩).symm, ht⟩) (fun _ h => by cases h) dX1_wouldOutgrowHalf_67
    · have h_20 := q_le_f (a := B.1) (b := c + 4) (by omega) (by omega) c_20
      refine lv_iconst (v := 1) hx hb dX1_wouldOutgrowHalf_23 (by decide) ?_
      refine lv_goto (tgt := 28) hx hb dX1_wouldOutgrowHalf_24 (by decide) ?_
      refine lv_istore_n (lv' := [(1, .int 1), (0, .ref h0)]) hx hb dX1_wouldOutgrowHalf_28 rfl hl (by decide) rfl (fun ls hl => ?_)
      refine lv_iload_n hx hb dX1_wouldOutgrowHalf_29 rfl (lv_at hl 0 rfl) ?_
      refine lv_if_ne (tgt := 66) hx hb dX1_wouldOutgrowHalf_30 (by decide) (fun c_30 => ?_) (fun c_30 => ?_)
      · have h_30 := q_eq_f (a := 1) (b := 0) (by omega) (by omega) c_30
        have hnf : ¬ q_full L A B (some c) kc := fun z => z.1 ⟨c, rfl, h_20⟩
        refine lv_iconst (v := 0) hx hb dX1_wouldOutgrowHalf_66 (by decide) ?_
        exact W.zret (v := 0) hx hb hr (rfl) (fun t ht hW => ⟨_, rfl, (q_b_f hnf).symm, ht⟩) (fun _ h => by cases h) dX1_wouldOutgrowHalf_67
      · have h_30 := q_eq_t (a := 1) (b := 0) (by omega) (by omega) c_30
        omega
